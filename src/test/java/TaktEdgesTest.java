/**
 * "A takt", clause by clause: each has a test of its own where it holds, where it just does not, and where nothing is
 * there.
 */
public final class TaktEdgesTest {
    public static void main(String[] args) {
        firstBackToTheLane();
        thenOnwards();
        thenOntoTheLine();
        lastWork();
        manyTaktsAreAsManyCalls();
        Check.end();
    }

    private static void firstBackToTheLane() {
        aKindOfALowerStationSendsBack();
        aKindOfTheSameStationDoesNot();
        aKindOfAHigherStationDoesNot();
        theLowestOfAllSuchStations();
        cameByFallingStations();
        cameBehindThoseInTheLane();
        aPartGoesAheadOfAFailedTest();
        aPartGoesAheadOfAMissingTest();
        failedAtSixGoesForFive();
        onlyTheLatestTestCounts();
        flashedAtSixStays();
        aFailedTestIsForgottenByAFlashAlone();
        untestedAtSevenGoesForFive();
        untestedAtFiveStays();
        failedElsewhereThanAtSixGoesOn();
    }

    private static void thenOnwards() {
        leavesWithAllOfIt();
        doesNotLeaveLackingAPart();
        movesBehindOneThatLeaves();
        movesBehindOneThatGoesBack();
        movesByFallingStations();
        staysWhereTheNextIsTaken();
        staysWhereAPartLacks();
        staysAtFiveWithNoImage();
        movesFromFiveWithAnyImage();
        staysAtSixUntested();
        movesOneStationATakt();
    }

    private static void thenOntoTheLine() {
        theLaneIsEmpty();
        noCarIsOrdered();
        comesBackInTheSameTakt();
        staysInTheLaneWhereAStationIsTaken();
        onePassesAnotherInTheLane();
        twoComeToTwoStations();
        twoForOneStation();
        staysInTheLaneWhereOneHasMovedOn();
        theLaneComesAheadOfTheRow();
        theRowWaitsForTheStationZero();
        oneOfTheRowATakt();
    }

    private static void lastWork() {
        picksAllKindsOfTheStation();
        picksNoneWithoutALot();
        picksNoneFromALotOfAnotherKind();
        picksNoneFromARecalledLot();
        picksNoneFromAnEmptyLot();
        picksTheLowestLotNotTheLowestVersion();
        picksNoSecondUnit();
        takesOutAndPicks();
        takesOutAndPicksNone();
        worksInNoLane();
        worksAtTheStationOfTheKindAlone();
        noTestBeforeSix();
        noTestAtSeven();
        aTestOfAFitCarPasses();
        aTestOfAnUnfitCarFails();
        aTestWithAFaultFails();
        aTestWithBothFailsOnce();
        aFaultIsUsedByOneTest();
        oneTestATakt();
        onlyAUnitOrAFlashEndsATest();
    }

    /** The one car is at a station from 0 to 7, with all that it took on its way, and tested from 6 on. */
    private static TaktLine carAtStation(TaktLine line, int station) {
        line.takt(Math.min(station, 5) + 1);
        if (station > 5) {
            Lines.flashSigned(line, 0);
            line.takt(station - 5);
        }
        Lines.onLine(line, 0, station);
        return line;
    }

    // ---- 1. back to the lane

    private static void aKindOfALowerStationSendsBack() {
        for (int fitted = 0; fitted < 5; fitted++) {
            for (int s = fitted + 1; s < 8; s++) {
                TaktLine line = carAtStation(Lines.only(6, fitted, false, 1), s);
                line.recall(0);
                Check.same("none leaves", line.takt(1), 0);
                Lines.onLine(line, 0, fitted);
                Check.same("scrapped", line.scrapped(), 1);
            }
        }
    }

    private static void aKindOfTheSameStationDoesNot() {
        for (int s = 0; s < 5; s++) {
            TaktLine line = carAtStation(Lines.only(6, s, false, 1), s);
            line.recall(0);
            line.takt(1);
            Lines.onLine(line, 0, s);
            Check.same("carAt(" + s + ")", line.carAt(s), 0);
            Check.same("scrapped", line.scrapped(), 1);
        }
    }

    private static void aKindOfAHigherStationDoesNot() {
        for (int fitted = 1; fitted < 5; fitted++) {
            for (int s = 0; s < fitted; s++) {
                TaktLine line = carAtStation(Lines.only(6, fitted, false, 1), s);
                Check.same("it lacks it", line.lacks(0), 64);
                line.takt(1);
                Lines.onLine(line, 0, s + 1);
            }
        }
    }

    // The kinds run against the stations, so that neither the lowest nor the highest kind tells the station.
    private static void theLowestOfAllSuchStations() {
        int[] kindAt = {4, 9, 0, 7, 2};
        for (int set = 1; set < 32; set++) {
            TaktLine line = new TaktLine();
            for (int s = 0; s < 5; s++) {
                line.kind(kindAt[s], s, 0, 0, false);
                line.lot(kindAt[s], 1, 1);
            }
            line.order(0);
            carAtStation(line, 5);
            for (int s = 0; s < 5; s++) {
                if ((set >> s) % 2 == 1) {
                    line.recall(s);
                }
            }
            line.takt(1);
            Lines.onLine(line, 0, Integer.numberOfTrailingZeros(set));
        }
    }

    private static void cameByFallingStations() {
        TaktLine line = Lines.only(6, 1, false, 3);
        line.takt(5);
        for (int c = 0; c < 3; c++) {
            Lines.onLine(line, c, 4 - c);
        }
        line.recall(0);
        line.takt(1);
        Lines.onLine(line, 0, 1);
        Lines.inLane(line, 1, 1);
        Lines.inLane(line, 2, 1);
        line.lot(6, 1, 50);
        line.takt(2);
        Lines.onLine(line, 1, 1);
        Lines.inLane(line, 2, 1);
        line.takt(1);
        Lines.onLine(line, 2, 1);
    }

    // Each of three cars has a unit of a lot of its own; the station 1 is held by one that waits for another kind.
    private static void cameBehindThoseInTheLane() {
        TaktLine line = new TaktLine();
        line.kind(0, 1, 0, 1, false);
        line.kind(1, 1, 1, 0, false);
        for (int l = 0; l < 3; l++) {
            line.lot(0, 1, 1);
        }
        line.order(0);
        line.order(0);
        line.order(0);
        line.order(1);
        line.takt(5);
        Lines.onLine(line, 0, 4);
        Lines.onLine(line, 3, 1);
        line.recall(1);
        line.takt(1);
        Lines.inLane(line, 1, 1);
        line.recall(2);
        line.takt(1);
        Lines.inLane(line, 2, 1);
        line.recall(0);
        line.takt(1);
        Lines.inLane(line, 0, 1);
        line.lot(1, 1, 1);
        line.lot(0, 1, 50);
        line.takt(2);
        for (int c : new int[] {1, 2, 0}) {
            Lines.onLine(line, c, 1);
            line.takt(1);
        }
    }

    private static void aPartGoesAheadOfAFailedTest() {
        TaktLine line = Lines.only(6, 2, false, 1);
        line.takt(6);
        line.flash(0, line.build(0));
        line.takt(1);
        Lines.onLine(line, 0, 6);
        Check.same("its test failed", line.failed(), 1);
        line.recall(0);
        line.takt(1);
        Lines.onLine(line, 0, 2);
    }

    private static void aPartGoesAheadOfAMissingTest() {
        TaktLine line = carAtStation(Lines.only(6, 3, false, 1), 7);
        line.flash(0, 0);
        line.recall(0);
        line.takt(1);
        Lines.onLine(line, 0, 3);
    }

    private static void failedAtSixGoesForFive() {
        TaktLine line = Lines.plain(2);
        line.takt(6);
        line.flash(0, line.build(0));
        line.takt(1);
        Lines.onLine(line, 0, 6);
        line.takt(1);
        Lines.inLane(line, 0, 5);
        Lines.onLine(line, 1, 5);
    }

    private static void onlyTheLatestTestCounts() {
        TaktLine line = Lines.plain(1);
        line.fault(0);
        carAtStation(line, 6);
        Check.same("failed", line.failed(), 1);
        line.takt(1);
        Lines.onLine(line, 0, 5);
        line.takt(1);
        Lines.onLine(line, 0, 6);
        Check.same("its second test passes", line.isTested(0), true);
        line.takt(1);
        Lines.onLine(line, 0, 7);
    }

    private static void flashedAtSixStays() {
        TaktLine line = Lines.plain(1);
        line.fault(0);
        carAtStation(line, 6);
        line.flash(0, 0);
        line.fault(0);
        line.takt(1);
        Lines.onLine(line, 0, 6);
        Check.same("it was tested again, and failed", line.failed(), 2);
        line.takt(1);
        Lines.onLine(line, 0, 5);
    }

    // What made the test fail is mended, and all else is called, but the test that failed is the latest one still.
    private static void aFailedTestIsForgottenByAFlashAlone() {
        TaktLine line = Lines.plain(1);
        line.takt(6);
        line.flash(0, line.build(0));
        line.takt(1);
        Check.same("failed", line.failed(), 1);
        line.sign(line.build(0), 0);
        line.fault(0);
        line.recall(line.lot(0, 1, 1));
        line.order(0);
        Check.same("fit", line.isFit(0), true);
        line.takt(1);
        Lines.onLine(line, 0, 5);
        Check.same("tested no second time at the station 6", line.failed(), 1);
    }

    private static void untestedAtSevenGoesForFive() {
        TaktLine line = carAtStation(Lines.plain(2), 7);
        line.flash(0, 0);
        Check.same("none leaves", line.takt(1), 0);
        Lines.inLane(line, 0, 5);
        Lines.onLine(line, 1, 5);
        Check.same("carAt(7)", line.carAt(7), TaktLine.NONE);
    }

    private static void untestedAtFiveStays() {
        TaktLine line = carAtStation(Lines.plain(1), 5);
        for (int t = 0; t < 3; t++) {
            line.takt(1);
            Lines.onLine(line, 0, 5);
            Check.same("not tested", line.isTested(0), false);
        }
    }

    private static void failedElsewhereThanAtSixGoesOn() {
        TaktLine line = Lines.only(6, 1, false, 1);
        line.takt(6);
        line.flash(0, line.build(0));
        line.takt(1);
        line.recall(0);
        line.lot(6, 1, 1);
        for (int s = 1; s < 7; s++) {
            line.takt(1);
            Lines.onLine(line, 0, s);
        }
        Check.same("failed anew", line.failed(), 2);
    }

    // ---- 2. onwards

    private static void leavesWithAllOfIt() {
        TaktLine line = carAtStation(Lines.soft(1), 7);
        Check.same("lacks nothing", line.lacks(0), 0);
        Check.same("tested", line.isTested(0), true);
        Check.same("fit", line.isFit(0), true);
        Check.same("it leaves", line.takt(1), 1);
        Lines.left(line, 0);
        Check.same("carAt(7)", line.carAt(7), TaktLine.NONE);
        Check.same("once", line.takt(20), 0);
    }

    private static void doesNotLeaveLackingAPart() {
        for (int lot = 0; lot < 3; lot++) {
            TaktLine line = carAtStation(Lines.soft(1), 7);
            line.recall(lot);
            Check.same("it does not leave", line.takt(1), 0);
            Lines.onLine(line, 0, lot);
        }
    }

    private static TaktLine carsAtSevenAndSix() {
        TaktLine line = Lines.plain(2);
        line.takt(6);
        Lines.flashSigned(line, 0);
        line.takt(1);
        Lines.flashSigned(line, 1);
        line.takt(1);
        Lines.onLine(line, 0, 7);
        Lines.onLine(line, 1, 6);
        return line;
    }

    private static void movesBehindOneThatLeaves() {
        TaktLine line = carsAtSevenAndSix();
        Check.same("one leaves", line.takt(1), 1);
        Lines.left(line, 0);
        Lines.onLine(line, 1, 7);
    }

    private static void movesBehindOneThatGoesBack() {
        TaktLine line = carsAtSevenAndSix();
        line.flash(0, 0);
        Check.same("none leaves", line.takt(1), 0);
        Lines.onLine(line, 0, 5);
        Lines.onLine(line, 1, 7);
        Check.same("the other leaves", line.takt(1), 1);
        Lines.onLine(line, 0, 6);
        Lines.left(line, 1);
    }

    private static void movesByFallingStations() {
        TaktLine line = Lines.plain(9);
        line.takt(6);
        for (int c = 0; c < 2; c++) {
            Lines.flashSigned(line, c);
            line.takt(1);
        }
        Lines.flashSigned(line, 2);
        for (int s = 0; s < 8; s++) {
            Lines.onLine(line, 7 - s, s);
        }
        Check.same("the first leaves", line.takt(1), 1);
        Lines.left(line, 0);
        for (int s = 0; s < 8; s++) {
            Lines.onLine(line, 8 - s, s);
        }
        Check.same("the second leaves", line.takt(1), 1);
        Lines.onLine(line, 2, 7);
        Check.same("carAt(6)", line.carAt(6), TaktLine.NONE);
        for (int s = 0; s < 6; s++) {
            Lines.onLine(line, 8 - s, s);
        }
    }

    // At each station from 0 to 5 a car that is done stands behind one that is not.
    private static void staysWhereTheNextIsTaken() {
        TaktLine line = Lines.plain(7);
        line.takt(20);
        for (int s = 0; s < 6; s++) {
            Lines.onLine(line, 5 - s, s);
        }
        Lines.ordered(line, 6);
        Lines.flashSigned(line, 0);
        line.takt(1);
        Lines.onLine(line, 0, 6);
        Lines.flashSigned(line, 1);
        line.flash(0, 0);
        line.takt(1);
        Lines.onLine(line, 0, 6);
        Lines.onLine(line, 1, 5);
        Lines.onLine(line, 6, 0);
        line.takt(1);
        Lines.onLine(line, 0, 7);
        Lines.onLine(line, 1, 6);
        Lines.onLine(line, 6, 1);
    }

    private static void staysWhereAPartLacks() {
        for (int s = 0; s < 5; s++) {
            TaktLine line = new TaktLine();
            line.kind(8, s, 0, 0, false);
            line.order(0);
            line.takt(20);
            Lines.onLine(line, 0, s);
            line.lot(8, 1, 1);
            line.takt(1);
            Lines.onLine(line, 0, s);
            line.takt(1);
            Lines.onLine(line, 0, s + 1);
        }
    }

    private static void staysAtFiveWithNoImage() {
        TaktLine line = carAtStation(Lines.plain(1), 5);
        line.sign(line.build(0), 0);
        line.takt(20);
        Lines.onLine(line, 0, 5);
        line.flash(0, 0);
        line.takt(1);
        Lines.onLine(line, 0, 6);
    }

    private static void movesFromFiveWithAnyImage() {
        TaktLine line = Lines.soft(1);
        line.build(0);
        carAtStation(line, 5);
        line.flash(0, 0);
        Check.same("not fit", line.isFit(0), false);
        line.takt(1);
        Lines.onLine(line, 0, 6);
    }

    private static void staysAtSixUntested() {
        TaktLine line = carAtStation(Lines.plain(1), 6);
        line.flash(0, 0);
        line.takt(1);
        Lines.onLine(line, 0, 6);
        line.takt(1);
        Lines.onLine(line, 0, 7);
    }

    private static void movesOneStationATakt() {
        TaktLine line = Lines.plain(1);
        for (int s = 0; s < 6; s++) {
            line.takt(1);
            Lines.onLine(line, 0, s);
        }
        Lines.flashSigned(line, 0);
        line.takt(1);
        Lines.onLine(line, 0, 6);
        line.takt(1);
        Lines.onLine(line, 0, 7);
    }

    // ---- 3. onto the line

    private static void theLaneIsEmpty() {
        TaktLine line = carAtStation(Lines.plain(1), 3);
        line.takt(1);
        Lines.onLine(line, 0, 4);
        for (int s = 0; s < 4; s++) {
            Check.same("carAt(" + s + ")", line.carAt(s), TaktLine.NONE);
        }
    }

    private static void noCarIsOrdered() {
        TaktLine line = new TaktLine();
        line.takt(20);
        Check.same("carAt(0)", line.carAt(0), TaktLine.NONE);
        line.order(0);
        line.takt(1);
        Lines.onLine(line, 0, 0);
    }

    private static void comesBackInTheSameTakt() {
        TaktLine line = carAtStation(Lines.only(6, 0, false, 1), 5);
        line.recall(0);
        line.lot(6, 1, 1);
        line.takt(1);
        Lines.onLine(line, 0, 0);
        Lines.lots(line, 0, 6, 1);
    }

    private static void staysInTheLaneWhereAStationIsTaken() {
        TaktLine line = Lines.withTheStationOneTaken();
        line.recall(1);
        for (int t = 0; t < 3; t++) {
            line.takt(1);
            Lines.inLane(line, 0, 1);
            Lines.inLane(line, 1, 1);
            Lines.onLine(line, 2, 1);
            Check.same("carAt(2)", line.carAt(2), TaktLine.NONE);
        }
    }

    private static void onePassesAnotherInTheLane() {
        TaktLine line = new TaktLine();
        line.kind(0, 1, 1, 0, false);
        line.kind(1, 2, 2, 0, false);
        line.kind(2, 1, 4, 0, false);
        line.lot(0, 1, 1);
        line.lot(1, 1, 1);
        line.order(1);
        line.order(2);
        line.order(4);
        line.takt(5);
        Lines.onLine(line, 0, 4);
        Lines.onLine(line, 1, 3);
        Lines.onLine(line, 2, 1);
        line.recall(0);
        line.recall(1);
        line.takt(1);
        Lines.inLane(line, 0, 1);
        Lines.onLine(line, 1, 2);
    }

    private static void twoComeToTwoStations() {
        TaktLine line = new TaktLine();
        line.kind(0, 1, 1, 0, false);
        line.kind(1, 2, 2, 0, false);
        line.lot(0, 1, 1);
        line.lot(1, 1, 1);
        line.order(1);
        line.order(2);
        line.takt(5);
        line.recall(0);
        line.recall(1);
        line.takt(1);
        Lines.onLine(line, 0, 1);
        Lines.onLine(line, 1, 2);
        Check.same("scrapped", line.scrapped(), 2);
    }

    private static void twoForOneStation() {
        TaktLine line = Lines.only(6, 2, false, 2);
        line.takt(5);
        line.recall(0);
        line.takt(1);
        Lines.onLine(line, 0, 2);
        Lines.inLane(line, 1, 2);
        line.lot(6, 1, 1);
        line.takt(2);
        Lines.onLine(line, 0, 3);
        Lines.onLine(line, 1, 2);
        Check.same("the one unit is in the first", line.lotIn(1, 6), TaktLine.NONE);
    }

    // The station 2 is free when the car goes back for it, but the one at the station 1 moves there first.
    private static void staysInTheLaneWhereOneHasMovedOn() {
        TaktLine line = new TaktLine();
        line.kind(0, 2, 0, 1, false);
        line.lot(0, 1, 1);
        line.order(0);
        line.takt(3);
        line.order(1);
        line.takt(2);
        Lines.onLine(line, 0, 4);
        Lines.onLine(line, 1, 1);
        line.recall(0);
        line.takt(1);
        Lines.inLane(line, 0, 2);
        Lines.onLine(line, 1, 2);
        line.takt(1);
        Lines.onLine(line, 0, 2);
        Lines.onLine(line, 1, 3);
    }

    private static void theLaneComesAheadOfTheRow() {
        TaktLine line = carAtStation(Lines.plain(1), 4);
        line.order(0);
        line.recall(0);
        line.lot(0, 1, 50);
        line.takt(1);
        Lines.onLine(line, 0, 0);
        Lines.ordered(line, 1);
        line.takt(1);
        Lines.onLine(line, 0, 1);
        Lines.onLine(line, 1, 0);
    }

    private static void theRowWaitsForTheStationZero() {
        TaktLine line = new TaktLine();
        line.kind(0, 0, 0, 0, false);
        Lines.order(line, 2);
        line.takt(20);
        Lines.onLine(line, 0, 0);
        Lines.ordered(line, 1);
        line.lot(0, 1, 2);
        line.takt(1);
        Lines.ordered(line, 1);
        line.takt(1);
        Lines.onLine(line, 0, 1);
        Lines.onLine(line, 1, 0);
    }

    private static void oneOfTheRowATakt() {
        TaktLine line = new TaktLine();
        Lines.order(line, 30);
        for (int t = 0; t < 6; t++) {
            line.takt(1);
            Lines.onLine(line, t, 0);
            Lines.ordered(line, t + 1);
        }
    }

    // ---- 4. work

    private static void picksAllKindsOfTheStation() {
        TaktLine line = new TaktLine();
        for (int k = 0; k < 10; k++) {
            line.kind(k, 3, 0, 0, false);
            line.lot(9 - k, 1, 1);
        }
        line.order(0);
        line.takt(4);
        for (int k = 0; k < 10; k++) {
            Lines.lots(line, 0, k, 9 - k);
        }
    }

    private static void picksNoneWithoutALot() {
        TaktLine line = new TaktLine();
        line.kind(0, 0, 0, 0, false);
        line.order(0);
        line.takt(3);
        Lines.lots(line, 0, 0, TaktLine.NONE);
        Check.same("lacks", line.lacks(0), 1);
        Check.same("scrapped", line.scrapped(), 0);
    }

    private static void picksNoneFromALotOfAnotherKind() {
        TaktLine line = new TaktLine();
        line.kind(5, 0, 0, 0, false);
        for (int k = 0; k < 10; k++) {
            if (k != 5) {
                line.lot(k, 1, 1);
            }
        }
        line.order(0);
        line.takt(3);
        for (int k = 0; k < 10; k++) {
            Lines.lots(line, 0, k, TaktLine.NONE);
        }
        for (int l = 0; l < 9; l++) {
            Check.same("units of " + l, line.units(l), 1);
        }
    }

    private static void picksNoneFromARecalledLot() {
        TaktLine line = Lines.plain(1);
        line.recall(0);
        line.takt(3);
        Lines.lots(line, 0, 0, TaktLine.NONE);
        Check.same("units", line.units(0), 50);
    }

    private static void picksNoneFromAnEmptyLot() {
        TaktLine line = new TaktLine();
        line.kind(0, 0, 0, 0, false);
        line.lot(0, 1, 1);
        Lines.order(line, 2);
        line.takt(5);
        Lines.lots(line, 1, 0, TaktLine.NONE);
        Check.same("units", line.units(0), 0);
        Check.same("recall", line.recall(0), 1);
    }

    private static void picksTheLowestLotNotTheLowestVersion() {
        TaktLine line = new TaktLine();
        line.kind(0, 0, 0, 0, false);
        line.lot(1, 1, 9);
        line.lot(0, 50, 9);
        line.lot(0, 99, 9);
        line.lot(0, 99, 9);
        line.lot(0, 1, 50);
        Lines.order(line, 2);
        line.takt(1);
        Lines.lots(line, 0, 0, 1);
        line.recall(2);
        line.recall(1);
        line.takt(1);
        Lines.lots(line, 0, 0, 3);
    }

    private static void picksNoSecondUnit() {
        TaktLine line = new TaktLine();
        line.kind(0, 0, 0, 0, false);
        line.kind(1, 0, 0, 0, false);
        line.lot(0, 1, 50);
        line.order(0);
        line.takt(20);
        Lines.onLine(line, 0, 0);
        Check.same("units of the kind that is in", line.units(0), 49);
        Check.same("scrapped", line.scrapped(), 0);
    }

    private static void takesOutAndPicks() {
        TaktLine line = Lines.plain(1);
        line.lot(0, 2, 50);
        line.takt(1);
        line.recall(0);
        line.takt(1);
        Lines.lots(line, 0, 0, 1);
        Check.same("scrapped", line.scrapped(), 1);
        Check.same("units", line.units(0), 49);
        Check.same("units", line.units(1), 49);
    }

    private static void takesOutAndPicksNone() {
        TaktLine line = Lines.plain(1);
        line.takt(1);
        line.recall(0);
        line.takt(1);
        Lines.lots(line, 0, 0, TaktLine.NONE);
        Check.same("scrapped", line.scrapped(), 1);
        line.takt(1);
        Check.same("scrapped no more", line.scrapped(), 1);
    }

    private static void worksInNoLane() {
        TaktLine line = Lines.withTheStationOneTaken();
        line.recall(1);
        line.takt(1);
        line.lot(1, 1, 50);
        line.takt(3);
        for (int c = 0; c < 2; c++) {
            Lines.inLane(line, c, 1);
            Lines.lots(line, c, 1, 1);
        }
        Check.same("scrapped", line.scrapped(), 0);
    }

    private static void worksAtTheStationOfTheKindAlone() {
        TaktLine line = carAtStation(Lines.full(1), 4);
        line.recall(3);
        line.recall(1);
        line.lot(1, 2, 1);
        line.lot(3, 2, 1);
        line.takt(1);
        Lines.onLine(line, 0, 1);
        Lines.lots(line, 0, 1, 5);
        Lines.lots(line, 0, 3, 3);
        line.takt(1);
        Lines.lots(line, 0, 3, 3);
        line.takt(1);
        Lines.onLine(line, 0, 3);
        Lines.lots(line, 0, 3, 6);
    }

    private static void noTestBeforeSix() {
        TaktLine line = carAtStation(Lines.plain(2), 5);
        Lines.flashSigned(line, 0);
        Check.same("not tested at the station 5", line.isTested(0), false);
        line.takt(1);
        Check.same("tested at the station 6", line.isTested(0), true);
        Lines.onLine(line, 1, 5);
        line.takt(1);
        Check.same("the other is not tested at the station 5", line.isTested(1), false);
        Check.same("failed", line.failed(), 0);
    }

    private static void noTestAtSeven() {
        TaktLine line = carAtStation(Lines.plain(1), 7);
        line.fault(0);
        line.flash(0, 0);
        line.takt(1);
        Lines.onLine(line, 0, 5);
        Check.same("not tested", line.isTested(0), false);
        Check.same("failed", line.failed(), 0);
        Check.same("the fault is there still", line.fault(0), false);
    }

    private static void aTestOfAFitCarPasses() {
        TaktLine line = carAtStation(Lines.soft(1), 6);
        Check.same("tested", line.isTested(0), true);
        Check.same("failed", line.failed(), 0);
    }

    // Not fit for each of its reasons that a car can have at the station 6.
    private static void aTestOfAnUnfitCarFails() {
        TaktLine unsigned = Lines.soft(1);
        unsigned.takt(6);
        unsigned.flash(0, unsigned.build(0));
        TaktLine forAnother = Lines.soft(1);
        forAnother.build(0);
        forAnother.takt(6);
        forAnother.sign(0, 0);
        forAnother.flash(0, 0);
        TaktLine signedForAnother = Lines.soft(2);
        signedForAnother.takt(6);
        signedForAnother.sign(signedForAnother.build(0), 1);
        signedForAnother.flash(0, 0);
        for (TaktLine line : new TaktLine[] {unsigned, forAnother, signedForAnother}) {
            line.takt(1);
            Lines.onLine(line, 0, 6);
            Check.same("not fit", line.isFit(0), false);
            Check.same("not tested", line.isTested(0), false);
            Check.same("failed", line.failed(), 1);
        }
    }

    private static void aTestWithAFaultFails() {
        TaktLine line = Lines.soft(1);
        line.fault(0);
        carAtStation(line, 6);
        Check.same("fit", line.isFit(0), true);
        Check.same("not tested", line.isTested(0), false);
        Check.same("failed", line.failed(), 1);
    }

    private static void aTestWithBothFailsOnce() {
        TaktLine line = Lines.soft(1);
        line.takt(6);
        line.flash(0, line.build(0));
        line.fault(0);
        line.takt(1);
        Check.same("failed", line.failed(), 1);
        Check.same("the fault was used up", line.fault(0), true);
    }

    private static void aFaultIsUsedByOneTest() {
        TaktLine line = Lines.plain(1);
        line.fault(0);
        line.fault(0);
        carAtStation(line, 6);
        line.takt(2);
        Check.same("tested", line.isTested(0), true);
        Check.same("failed", line.failed(), 1);
    }

    private static void oneTestATakt() {
        TaktLine line = Lines.plain(1);
        line.takt(6);
        line.flash(0, line.build(0));
        line.takt(20);
        Check.same("each second takt a test", line.failed(), 10);
        Lines.onLine(line, 0, 5);
        line.takt(1);
        Check.same("and the next one", line.failed(), 11);
    }

    private static void onlyAUnitOrAFlashEndsATest() {
        TaktLine line = carAtStation(Lines.soft(1), 7);
        line.fault(0);
        line.sign(line.build(0), line.order(0));
        line.recall(line.lot(0, 1, 1));
        line.recall(0);
        Check.same("tested with its lot recalled", line.isTested(0), true);
        line.takt(1);
        Check.same("not tested with the unit taken out", line.isTested(0), false);
    }

    // ---- all of it

    private static void manyTaktsAreAsManyCalls() {
        for (int takts = 1; takts <= 20; takts++) {
            TaktLine one = busyLine();
            TaktLine many = busyLine();
            int left = 0;
            for (int t = 0; t < takts; t++) {
                left += one.takt(1);
            }
            Check.same("cars that leave in " + takts, many.takt(takts), left);
            Check.same("the state after " + takts, Check.state(many), Check.state(one));
        }
    }

    private static TaktLine busyLine() {
        TaktLine line = Lines.full(12);
        line.lot(1, 1, 50);
        line.lot(3, 1, 50);
        line.takt(6);
        for (int c = 0; c < 3; c++) {
            Lines.flashSigned(line, c);
            line.takt(1);
        }
        line.fault(1);
        line.flash(2, 0);
        line.recall(1);
        line.recall(3);
        return line;
    }
}
