/** Promises 13 to 17: needs, lacks, lotIn, lotByPicks, scrapped. */
public final class PartsInCarsTest {
    public static void main(String[] args) {
        needsStaysTheSame();
        lacksFollowsTheUnits();
        onlyWhatIsNeededIsPicked();
        theLowestGoodLotIsPicked();
        picksFollowTheRisingStations();
        aRecalledUnitIsReplaced();
        aRecalledUnitIsTakenOutWithoutANewOne();
        aNewUnitEndsTheTest();
        takingOutAloneEndsTheTest();
        onlyTheKindsOfTheStationAreFitted();
        picksAreFoundAfterManyRecalls();
        carsThatLeftKeepTheirUnits();
        questionsRefuse();
        Check.end();
    }

    private static void needsStaysTheSame() {
        TaktLine line = new TaktLine();
        line.kind(1, 0, 2, 0, false);
        line.kind(8, 0, 0, 2, false);
        line.lot(1, 1, 1);
        line.order(2);
        line.order(4);
        Check.same("needs", line.needs(0), 2);
        Check.same("needs", line.needs(1), 256);
        line.takt(3);
        Check.same("needs with the unit in", line.needs(0), 2);
        line.recall(0);
        Check.same("needs with the lot recalled", line.needs(0), 2);
    }

    private static void lacksFollowsTheUnits() {
        TaktLine line = new TaktLine();
        line.kind(0, 0, 0, 0, false);
        line.kind(6, 1, 0, 0, false);
        line.lot(0, 1, 1);
        line.lot(6, 1, 1);
        line.order(0);
        Check.same("lacks all it needs", line.lacks(0), 65);
        line.takt(1);
        Check.same("lacks what is fitted later", line.lacks(0), 64);
        line.takt(1);
        Check.same("lacks nothing", line.lacks(0), 0);
        line.recall(1);
        Check.same("lacks what is recalled", line.lacks(0), 64);
        line.recall(0);
        Check.same("lacks both", line.lacks(0), 65);
    }

    private static void onlyWhatIsNeededIsPicked() {
        TaktLine line = new TaktLine();
        line.kind(0, 0, 1, 0, false);
        line.lot(0, 1, 2);
        line.lot(5, 1, 2);
        line.order(0);
        line.order(1);
        line.takt(4);
        Lines.lots(line, 0, 0, TaktLine.NONE);
        Lines.lots(line, 0, 5, TaktLine.NONE);
        Lines.lots(line, 1, 0, 0);
        Check.same("units", line.units(0), 1);
        Check.same("units", line.units(1), 2);
        line.recall(0);
        Check.same("the one that does not need it lacks nothing", line.lacks(0), 0);
    }

    private static void theLowestGoodLotIsPicked() {
        TaktLine line = new TaktLine();
        line.kind(2, 0, 0, 0, false);
        line.lot(3, 1, 9);
        line.lot(2, 1, 1);
        line.lot(2, 99, 2);
        line.lot(2, 1, 9);
        for (int c = 0; c < 5; c++) {
            line.order(0);
        }
        line.takt(2);
        Lines.lots(line, 0, 2, 1);
        Lines.lots(line, 1, 2, 2);
        line.recall(2);
        line.takt(1);
        Lines.lots(line, 1, 2, 3);
        Check.same("a recalled lot is not picked", line.units(2), 1);
        Check.same("units", line.units(3), 8);
    }

    // Two kinds at one station: of each there is a lot, and both are picked in the one takt.
    private static void picksFollowTheRisingStations() {
        TaktLine line = new TaktLine();
        line.kind(9, 0, 0, 0, false);
        line.kind(0, 0, 0, 0, false);
        line.lot(9, 1, 1);
        line.lot(0, 1, 1);
        line.order(0);
        line.takt(1);
        Lines.lots(line, 0, 9, 0);
        Lines.lots(line, 0, 0, 1);
    }

    private static void aRecalledUnitIsReplaced() {
        TaktLine line = new TaktLine();
        line.kind(0, 0, 0, 0, false);
        line.lot(0, 1, 3);
        line.lot(0, 2, 3);
        line.order(0);
        line.takt(3);
        line.recall(0);
        Lines.lots(line, 0, 0, 0);
        Check.same("scrapped before the takt", line.scrapped(), 0);
        line.takt(1);
        Lines.lots(line, 0, 0, 1);
        Check.same("scrapped", line.scrapped(), 1);
        Check.same("units of the recalled lot", line.units(0), 2);
        Check.same("units of the other lot", line.units(1), 2);
        Check.same("lacks", line.lacks(0), 0);
    }

    private static void aRecalledUnitIsTakenOutWithoutANewOne() {
        TaktLine line = new TaktLine();
        line.kind(0, 0, 0, 0, false);
        line.lot(0, 1, 3);
        line.order(0);
        line.takt(1);
        line.recall(0);
        line.takt(1);
        Lines.lots(line, 0, 0, TaktLine.NONE);
        Check.same("scrapped", line.scrapped(), 1);
        line.takt(5);
        Check.same("it is scrapped once", line.scrapped(), 1);
        Check.same("lacks", line.lacks(0), 1);
        line.lot(0, 1, 1);
        line.takt(1);
        Lines.lots(line, 0, 0, 1);
        Check.same("scrapped", line.scrapped(), 1);
    }

    private static TaktLine lineWithATestedCar() {
        TaktLine line = new TaktLine();
        line.kind(0, 1, 0, 0, false);
        line.lot(0, 1, 3);
        line.order(0);
        line.takt(6);
        Lines.flashSigned(line, 0);
        line.takt(2);
        Check.same("tested at the station 7", line.isTested(0), true);
        return line;
    }

    private static void aNewUnitEndsTheTest() {
        TaktLine line = lineWithATestedCar();
        line.recall(0);
        Check.same("tested when it is recalled", line.isTested(0), true);
        line.lot(0, 1, 3);
        line.takt(1);
        Check.same("back at the station 1", line.stationOf(0), 1);
        Check.same("not tested with the new unit", line.isTested(0), false);
        line.takt(4);
        Check.same("at the station 5, with its image", line.stationOf(0), 5);
        line.takt(1);
        Check.same("tested anew", line.isTested(0), true);
    }

    private static void takingOutAloneEndsTheTest() {
        TaktLine line = lineWithATestedCar();
        line.recall(0);
        line.takt(1);
        Lines.lots(line, 0, 0, TaktLine.NONE);
        Check.same("not tested without the unit", line.isTested(0), false);
    }

    private static void onlyTheKindsOfTheStationAreFitted() {
        TaktLine line = new TaktLine();
        for (int k = 0; k < 10; k++) {
            line.kind(k, k % 5, 0, 0, true);
            line.lot(k, 1 + k, 50);
        }
        line.order(0);
        for (int s = 0; s < 5; s++) {
            line.takt(1);
            for (int k = 0; k < 10; k++) {
                Lines.lots(line, 0, k, k % 5 <= s ? k : TaktLine.NONE);
            }
        }
    }

    private static void picksAreFoundAfterManyRecalls() {
        TaktLine line = new TaktLine();
        line.kind(0, 0, 0, 0, false);
        line.kind(1, 0, 0, 0, false);
        line.lot(1, 1, 1);
        line.order(0);
        line.takt(1);
        for (int l = 1; l < 40; l++) {
            line.lot(0, 1, 1);
            line.takt(1);
            Lines.lots(line, 0, 0, l);
            Lines.lots(line, 0, 1, 0);
            line.recall(l);
            line.takt(1);
            Lines.lots(line, 0, 0, TaktLine.NONE);
            Check.same("scrapped", line.scrapped(), l);
        }
    }

    private static void carsThatLeftKeepTheirUnits() {
        TaktLine line = new TaktLine();
        line.kind(0, 0, 0, 0, false);
        line.lot(0, 1, 3);
        line.order(0);
        line.takt(6);
        Lines.flashSigned(line, 0);
        line.takt(3);
        line.recall(0);
        line.takt(20);
        Lines.lots(line, 0, 0, 0);
        Check.same("lacks of a car that left", line.lacks(0), 1);
        Check.same("needs of a car that left", line.needs(0), 1);
        Check.same("scrapped", line.scrapped(), 0);
    }

    private static void questionsRefuse() {
        TaktLine line = new TaktLine();
        Check.refusesIndex("needs with no car", line, () -> line.needs(0));
        Check.refusesIndex("lacks with no car", line, () -> line.lacks(0));
        Check.refusesIndex("lotIn with no car", line, () -> line.lotIn(0, 0));
        Check.refusesIndex("lotByPicks with no car", line, () -> line.lotByPicks(0, 0));
        line.order(0);
        for (int car : new int[] {-1, 1, 30, Lines.MIN, Lines.MAX}) {
            Check.refusesIndex("needs " + car, line, () -> line.needs(car));
            Check.refusesIndex("lacks " + car, line, () -> line.lacks(car));
            Check.refusesIndex("lotIn of " + car, line, () -> line.lotIn(car, 0));
            Check.refusesIndex("lotByPicks of " + car, line, () -> line.lotByPicks(car, 0));
        }
        for (int kind : new int[] {-1, 10, Lines.MIN, Lines.MAX}) {
            Check.refusesIndex("lotIn, kind " + kind, line, () -> line.lotIn(0, kind));
            Check.refusesIndex("lotByPicks, kind " + kind, line, () -> line.lotByPicks(0, kind));
        }
        Lines.lots(line, 0, 9, TaktLine.NONE);
    }
}
