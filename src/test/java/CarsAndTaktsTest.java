/** Promises 6 to 12: order, takt, fault, takts, whereIs, stationOf, carAt. */
public final class CarsAndTaktsTest {
    public static void main(String[] args) {
        orderGivesNumbers();
        orderRefuses();
        ordersUpToThirty();
        taktRefuses();
        taktsAreCounted();
        taktCountsThoseThatLeave();
        aCarGoesAlongTheLine();
        carsMoveTogether();
        aCarThatWaitsHoldsBackOthers();
        lackingAtALowerStationLeadsToTheLane();
        lackingHereOrLaterDoesNot();
        theLowestSuchStationIsTaken();
        aCarMayComeBackInTheSameTakt();
        theLaneKeepsItsOrder();
        laneCarsChangePlaces();
        theLaneGoesAheadOfOrders();
        laneThenLowerStation();
        aFailedTestSendsBack();
        untestedAtTheLastStationSendsBack();
        aTestedCarWaitsAtSix();
        faultIsUsedUp();
        faultIsUsedUpByATestThatFailsAnyway();
        faultBeforeTheLine();
        faultRefuses();
        whereIsAndStationOf();
        questionsRefuse();
        Check.end();
    }

    private static void orderGivesNumbers() {
        TaktLine line = new TaktLine();
        Check.same("first car", line.order(0), 0);
        Check.same("second car", line.order(255), 1);
        line.takt(3);
        Check.same("third car", line.order(128), 2);
        Lines.ordered(line, 2);
    }

    private static void orderRefuses() {
        TaktLine line = new TaktLine();
        for (int options : new int[] {-1, 256, Lines.MIN, Lines.MAX}) {
            Check.refusesArgument("order " + options, line, () -> line.order(options));
        }
        Check.same("the first car after them", line.order(0), 0);
    }

    private static void ordersUpToThirty() {
        TaktLine line = Lines.plain(0);
        for (int c = 0; c < 30; c++) {
            Check.same("order", line.order(c), c);
        }
        Check.refusesState("car 30", line, () -> line.order(0));
        Check.refusesArgument("options at car 30", line, () -> line.order(256));
        line.takt(6);
        Lines.flashSigned(line, 0);
        Check.same("one leaves", line.takt(3), 1);
        Check.refusesState("car 30 with one that left", line, () -> line.order(0));
        Check.same("needs of car 29", line.needs(29), 1);
    }

    private static void taktRefuses() {
        TaktLine line = Lines.plain(2);
        for (int takts : new int[] {-1, 0, 21, Lines.MIN, Lines.MAX}) {
            Check.refusesArgument("takt " + takts, line, () -> line.takt(takts));
        }
        Check.same("takts after them", line.takts(), 0);
    }

    private static void taktsAreCounted() {
        TaktLine line = new TaktLine();
        line.takt(1);
        Check.same("takts", line.takts(), 1);
        line.takt(20);
        line.takt(20);
        Check.same("takts", line.takts(), 41);
    }

    private static void taktCountsThoseThatLeave() {
        TaktLine line = Lines.plain(3);
        line.takt(6);
        int left = 0;
        for (int c = 0; c < 3; c++) {
            Lines.flashSigned(line, c);
            left += line.takt(1);
        }
        Check.same("one in three takts", left, 1);
        Check.same("two in twenty", line.takt(20), 2);
        for (int c = 0; c < 3; c++) {
            Lines.left(line, c);
        }
        Check.same("no more", line.takt(20), 0);
    }

    private static void aCarGoesAlongTheLine() {
        TaktLine line = Lines.full(1);
        for (int s = 0; s < 6; s++) {
            Check.same("none leaves", line.takt(1), 0);
            Lines.onLine(line, 0, s);
            Check.same("lacks at " + s, line.lacks(0), s < 5 ? 31 & ~((2 << s) - 1) : 0);
        }
        Lines.flashSigned(line, 0);
        line.takt(1);
        Lines.onLine(line, 0, 6);
        Check.same("tested when it comes", line.isTested(0), true);
        line.takt(1);
        Lines.onLine(line, 0, 7);
        Check.same("it leaves", line.takt(1), 1);
        Lines.left(line, 0);
        Check.same("carAt(7)", line.carAt(7), TaktLine.NONE);
    }

    private static void carsMoveTogether() {
        TaktLine line = Lines.plain(5);
        line.takt(5);
        for (int c = 0; c < 5; c++) {
            Lines.onLine(line, c, 4 - c);
        }
        line.takt(1);
        for (int c = 0; c < 5; c++) {
            Lines.onLine(line, c, 5 - c);
        }
        Check.same("carAt(0)", line.carAt(0), TaktLine.NONE);
    }

    private static void aCarThatWaitsHoldsBackOthers() {
        TaktLine line = Lines.plain(8);
        line.takt(20);
        for (int c = 0; c < 6; c++) {
            Lines.onLine(line, c, 5 - c);
        }
        Lines.ordered(line, 6);
        Lines.flashSigned(line, 0);
        line.takt(1);
        for (int c = 0; c < 7; c++) {
            Lines.onLine(line, c, 6 - c);
        }
        Lines.ordered(line, 7);
    }

    private static void lackingAtALowerStationLeadsToTheLane() {
        TaktLine line = Lines.full(2);
        line.takt(4);
        Lines.onLine(line, 0, 3);
        Lines.onLine(line, 1, 2);
        line.recall(2);
        line.takt(1);
        Lines.inLane(line, 0, 2);
        Lines.onLine(line, 1, 2);
        Check.same("the one at that station has a unit of it still", line.lotIn(1, 2), TaktLine.NONE);
        Check.same("it is scrapped", line.scrapped(), 1);
        Check.same("carAt(3)", line.carAt(3), TaktLine.NONE);
        Check.same("the one in the lane keeps its unit", line.lotIn(0, 2), 2);
    }

    private static void lackingHereOrLaterDoesNot() {
        TaktLine line = Lines.full(1);
        line.takt(3);
        Lines.onLine(line, 0, 2);
        line.recall(2);
        line.recall(3);
        line.lot(2, 9, 1);
        line.takt(1);
        Lines.onLine(line, 0, 2);
        Check.same("it is fitted anew", line.lotIn(0, 2), 5);
        line.takt(1);
        Lines.onLine(line, 0, 3);
        line.takt(1);
        Lines.onLine(line, 0, 3);
        Check.same("none of the kind 3", line.lotIn(0, 3), TaktLine.NONE);
    }

    private static void theLowestSuchStationIsTaken() {
        TaktLine line = new TaktLine();
        line.kind(0, 3, 0, 0, false);
        line.kind(5, 1, 0, 0, false);
        line.kind(9, 2, 0, 0, false);
        line.lot(0, 1, 9);
        line.lot(5, 1, 9);
        line.lot(9, 1, 9);
        line.order(0);
        line.order(0);
        line.takt(6);
        Lines.onLine(line, 0, 5);
        Lines.onLine(line, 1, 4);
        line.recall(0);
        line.recall(1);
        line.recall(2);
        line.takt(1);
        Lines.onLine(line, 0, 1);
        Lines.inLane(line, 1, 1);
        Check.same("its unit is taken out at 1", line.lotIn(0, 5), TaktLine.NONE);
        Check.same("its unit is not taken out at 1", line.lotIn(0, 9), 2);
    }

    private static void aCarMayComeBackInTheSameTakt() {
        TaktLine line = Lines.full(1);
        line.takt(5);
        Lines.onLine(line, 0, 4);
        line.recall(1);
        line.lot(1, 2, 1);
        line.takt(1);
        Lines.onLine(line, 0, 1);
        Check.same("it is worked on in the same takt", line.lotIn(0, 1), 5);
        line.takt(3);
        Lines.onLine(line, 0, 4);
    }

    private static void theLaneKeepsItsOrder() {
        TaktLine line = Lines.withTheStationOneTaken();
        line.recall(1);
        line.takt(1);
        Lines.inLane(line, 0, 1);
        Lines.inLane(line, 1, 1);
        line.lot(2, 1, 1);
        line.lot(1, 2, 9);
        line.takt(1);
        Lines.onLine(line, 2, 1);
        Lines.inLane(line, 0, 1);
        line.takt(1);
        Lines.onLine(line, 2, 2);
        Lines.onLine(line, 0, 1);
        Lines.inLane(line, 1, 1);
        line.takt(1);
        Lines.onLine(line, 0, 2);
        Lines.onLine(line, 1, 1);
    }

    // One that waits for a lower station comes back to the one for which it is in the lane, and goes again.
    private static void laneCarsChangePlaces() {
        TaktLine line = Lines.withTheStationOneTaken();
        line.recall(1);
        line.takt(1);
        line.order(0);
        line.takt(1);
        Lines.onLine(line, 3, 0);
        line.recall(0);
        line.takt(1);
        Lines.onLine(line, 0, 1);
        Lines.inLane(line, 1, 1);
        Lines.inLane(line, 2, 0);
        Lines.onLine(line, 3, 0);
        line.lot(0, 1, 50);
        line.takt(1);
        Lines.inLane(line, 0, 0);
        Lines.onLine(line, 1, 1);
        Lines.inLane(line, 2, 0);
        Lines.onLine(line, 3, 0);
        line.takt(1);
        Lines.inLane(line, 0, 0);
        Lines.inLane(line, 1, 0);
        Lines.onLine(line, 2, 0);
        Lines.onLine(line, 3, 1);
    }

    private static void theLaneGoesAheadOfOrders() {
        TaktLine line = Lines.plain(3);
        line.takt(3);
        Lines.onLine(line, 2, 0);
        line.order(0);
        line.recall(0);
        line.lot(0, 2, 50);
        line.takt(1);
        Lines.inLane(line, 0, 0);
        Lines.inLane(line, 1, 0);
        Lines.onLine(line, 2, 0);
        Check.same("the one at the station 0 is fitted anew", line.lotIn(2, 0), 1);
        line.takt(1);
        Lines.onLine(line, 0, 0);
        Lines.onLine(line, 2, 1);
        line.takt(1);
        Lines.onLine(line, 1, 0);
        Lines.ordered(line, 3);
        line.takt(1);
        Lines.onLine(line, 3, 0);
    }

    // In the lane a car keeps the station for which it came into it.
    private static void laneThenLowerStation() {
        TaktLine line = Lines.full(2);
        line.takt(4);
        line.recall(2);
        line.takt(1);
        Lines.inLane(line, 0, 2);
        line.recall(1);
        line.takt(1);
        Lines.onLine(line, 1, 1);
        Lines.onLine(line, 0, 2);
        line.takt(1);
        Lines.inLane(line, 0, 1);
        line.lot(1, 1, 9);
        line.takt(2);
        Lines.onLine(line, 1, 2);
        Lines.onLine(line, 0, 1);
    }

    private static void aFailedTestSendsBack() {
        TaktLine line = Lines.plain(2);
        line.takt(6);
        line.flash(0, line.build(0));
        line.takt(1);
        Lines.onLine(line, 0, 6);
        Lines.onLine(line, 1, 5);
        Check.same("it failed", line.failed(), 1);
        line.takt(1);
        Lines.inLane(line, 0, 5);
        Check.same("not tested", line.isTested(0), false);
        Check.same("it is tested no second time", line.failed(), 1);
        line.flash(1, 0);
        line.sign(0, 0);
        line.takt(1);
        Lines.onLine(line, 1, 6);
        Lines.onLine(line, 0, 5);
        Check.same("the second failed", line.failed(), 2);
        line.takt(1);
        Lines.onLine(line, 0, 6);
        Lines.onLine(line, 1, 5);
        Check.same("the first passes", line.isTested(0), true);
        Check.same("failed", line.failed(), 2);
    }

    private static void untestedAtTheLastStationSendsBack() {
        TaktLine line = Lines.plain(1);
        line.takt(6);
        Lines.flashSigned(line, 0);
        line.takt(2);
        Lines.onLine(line, 0, 7);
        line.flash(0, 0);
        Check.same("none leaves", line.takt(1), 0);
        Lines.onLine(line, 0, 5);
        Check.same("none leaves", line.takt(2), 0);
        Lines.onLine(line, 0, 7);
        Check.same("it leaves", line.takt(1), 1);
    }

    private static void aTestedCarWaitsAtSix() {
        TaktLine line = Lines.plain(1);
        line.takt(6);
        Lines.flashSigned(line, 0);
        line.takt(1);
        line.flash(0, 0);
        Check.same("not tested", line.isTested(0), false);
        line.takt(1);
        Lines.onLine(line, 0, 6);
        Check.same("tested again there", line.isTested(0), true);
        line.fault(0);
        line.takt(1);
        Lines.onLine(line, 0, 7);
        Check.same("a fault fails no test that is not made", line.failed(), 0);
        Check.same("it leaves", line.takt(1), 1);
    }

    private static void faultIsUsedUp() {
        TaktLine line = Lines.plain(1);
        line.takt(6);
        Lines.flashSigned(line, 0);
        Check.same("fault", line.fault(0), true);
        Check.same("fault again", line.fault(0), false);
        line.takt(1);
        Check.same("its test failed", line.failed(), 1);
        Check.same("it is fit still", line.isFit(0), true);
        line.takt(1);
        Lines.onLine(line, 0, 5);
        line.takt(1);
        Check.same("its next test does not", line.failed(), 1);
        Check.same("tested", line.isTested(0), true);
        Check.same("fault after it was used up", line.fault(0), true);
    }

    private static void faultIsUsedUpByATestThatFailsAnyway() {
        TaktLine line = Lines.plain(1);
        line.takt(6);
        int image = line.build(0);
        line.flash(0, image);
        line.fault(0);
        line.takt(1);
        Check.same("failed once", line.failed(), 1);
        line.sign(image, 0);
        line.takt(2);
        Check.same("tested", line.isTested(0), true);
        Check.same("failed once still", line.failed(), 1);
    }

    private static void faultBeforeTheLine() {
        TaktLine line = Lines.plain(1);
        Check.same("fault of an ordered car", line.fault(0), true);
        line.takt(6);
        Check.same("fault is kept", line.fault(0), false);
        Lines.flashSigned(line, 0);
        Check.same("flash uses no fault up", line.fault(0), false);
        line.takt(1);
        Check.same("failed", line.failed(), 1);
    }

    private static void faultRefuses() {
        TaktLine line = Lines.plain(1);
        for (int car : new int[] {-1, 1, 30, Lines.MIN, Lines.MAX}) {
            Check.refusesIndex("fault " + car, line, () -> line.fault(car));
        }
        line.takt(6);
        Lines.flashSigned(line, 0);
        line.takt(2);
        Check.same("fault at the station 7", line.fault(0), true);
        Check.same("it leaves all the same", line.takt(1), 1);
        Check.refusesState("fault of a car that left", line, () -> line.fault(0));
    }

    private static void whereIsAndStationOf() {
        TaktLine line = Lines.plain(2);
        Lines.ordered(line, 0);
        line.takt(2);
        Lines.onLine(line, 0, 1);
        Lines.onLine(line, 1, 0);
        line.recall(0);
        line.takt(1);
        Lines.inLane(line, 0, 0);
        Lines.onLine(line, 1, 0);
        Check.same("carAt(1)", line.carAt(1), TaktLine.NONE);
    }

    private static void questionsRefuse() {
        TaktLine line = Lines.plain(0);
        Check.refusesIndex("whereIs with no car", line, () -> line.whereIs(0));
        Check.refusesIndex("stationOf with no car", line, () -> line.stationOf(0));
        Check.refusesIndex("fault with no car", line, () -> line.fault(0));
        line.order(0);
        for (int car : new int[] {-1, 1, 30, Lines.MIN, Lines.MAX}) {
            Check.refusesIndex("whereIs " + car, line, () -> line.whereIs(car));
            Check.refusesIndex("stationOf " + car, line, () -> line.stationOf(car));
        }
        for (int station : new int[] {-1, 8, Lines.MIN, Lines.MAX}) {
            Check.refusesArgument("carAt " + station, line, () -> line.carAt(station));
        }
        Check.same("carAt(0)", line.carAt(0), TaktLine.NONE);
        Check.same("carAt(7)", line.carAt(7), TaktLine.NONE);
    }
}
