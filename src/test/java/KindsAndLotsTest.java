/** Promises 1 to 5: a new object, kind, lot, recall, units. */
public final class KindsAndLotsTest {
    public static void main(String[] args) {
        newObject();
        kindsAtFirst();
        kindSetsAreUsed();
        kindIsToldAgain();
        kindRefuses();
        kindRefusesInOrder();
        lotIsAdded();
        lotRefuses();
        lotsUpToForty();
        recallCounts();
        recallCountsCarsThatLeft();
        recallRefuses();
        unitsAreCounted();
        unitsRefuses();
        objectsAreApart();
        Check.end();
    }

    private static void newObject() {
        TaktLine line = new TaktLine();
        Check.same("takts", line.takts(), 0);
        Check.same("scrapped", line.scrapped(), 0);
        Check.same("failed", line.failed(), 0);
        Check.same("images", line.images(), 0);
        Check.same("atLarge", line.atLarge(), 0);
        for (int s = 0; s < 8; s++) {
            Check.same("carAt of a new line", line.carAt(s), TaktLine.NONE);
        }
        Check.same("car 0", Check.isCar(line, 0), false);
        Check.same("lot 0", Check.isLot(line, 0), false);
        Check.same("takt of an empty line", line.takt(20), 0);
        Check.same("takts after it", line.takts(), 20);
    }

    private static void kindsAtFirst() {
        TaktLine line = new TaktLine();
        line.order(255);
        line.order(254);
        line.order(0);
        Check.same("needs with all options", line.needs(0), 1023);
        Check.same("needs with seven options", line.needs(1), 0);
        Check.same("needs with no option", line.needs(2), 0);
        for (int k = 0; k < 10; k++) {
            line.lot(k, 5, 1);
        }
        line.takt(1);
        Check.same("fitted at the station 0", line.lacks(0), 0);
        line.build(0);
        for (int k = 0; k < 10; k++) {
            Check.same("no software at first", line.versionIn(0, k), 0);
        }
    }

    private static void kindSetsAreUsed() {
        TaktLine line = new TaktLine();
        line.kind(0, 0, 0, 0, false);
        line.kind(1, 0, 3, 0, false);
        line.kind(2, 0, 0, 12, false);
        line.kind(3, 0, 1, 4, false);
        line.kind(4, 0, 1, 1, false);
        line.kind(5, 0, 0, 255, false);
        line.kind(9, 4, 128, 127, true);
        int[] options = {0, 1, 2, 3, 4, 5, 8, 11, 128, 129, 255};
        int[] due = {1 + 4 + 32, 1 + 4 + 8, 1 + 4, 1 + 2 + 4 + 8, 1, 1, 1, 1 + 2 + 8, 1 + 4 + 512, 1 + 4 + 8,
            1 + 2 + 64 + 128 + 256};
        for (int i = 0; i < options.length; i++) {
            line.order(options[i]);
            Check.same("needs with the options " + options[i], line.needs(i), due[i]);
        }
    }

    private static void kindIsToldAgain() {
        TaktLine line = new TaktLine();
        line.lot(0, 7, 9);
        line.kind(0, 4, 0, 0, true);
        line.kind(0, 2, 1, 2, false);
        line.order(0);
        line.order(1);
        line.order(3);
        Check.same("needs by the later telling", line.needs(0), 0);
        Check.same("needs by the later telling", line.needs(1), 1);
        Check.same("needs by the later telling", line.needs(2), 0);
        line.takt(3);
        Check.same("ahead of the station by the later telling", line.lotIn(1, 0), TaktLine.NONE);
        line.takt(1);
        Check.same("at the station by the later telling", line.lotIn(1, 0), 0);
        line.build(1);
        Check.same("software by the later telling", line.versionIn(0, 0), 0);
    }

    private static void kindRefuses() {
        TaktLine line = new TaktLine();
        for (int kind : new int[] {-1, 10, Lines.MIN, Lines.MAX}) {
            Check.refusesIndex("kind " + kind, line, () -> line.kind(kind, 0, 0, 0, true));
        }
        for (int station : new int[] {-1, 5, 7, Lines.MIN, Lines.MAX}) {
            Check.refusesArgument("kind, station " + station, line, () -> line.kind(0, station, 0, 0, true));
        }
        for (int set : new int[] {-1, 256, Lines.MIN, Lines.MAX}) {
            Check.refusesArgument("kind, with " + set, line, () -> line.kind(0, 0, set, 0, true));
            Check.refusesArgument("kind, without " + set, line, () -> line.kind(0, 0, 0, set, true));
        }
        line.kind(0, 0, 0, 0, true);
        line.kind(9, 4, 255, 255, false);
        line.order(0);
        Check.refusesState("kind with a car", line, () -> line.kind(0, 0, 255, 0, true));
        Check.same("needs after it", line.needs(0), 1);
    }

    private static void kindRefusesInOrder() {
        TaktLine line = new TaktLine();
        Check.refusesIndex("kind and station", line, () -> line.kind(10, 5, -1, -1, true));
        line.order(0);
        Check.refusesIndex("kind with a car", line, () -> line.kind(-1, 0, 0, 0, true));
        Check.refusesArgument("station with a car", line, () -> line.kind(0, 5, 0, 0, true));
        Check.refusesArgument("with with a car", line, () -> line.kind(0, 0, 256, 0, true));
        Check.refusesArgument("without with a car", line, () -> line.kind(0, 0, 0, 256, true));
    }

    private static void lotIsAdded() {
        TaktLine line = new TaktLine();
        Check.same("first lot", line.lot(0, 1, 1), 0);
        Check.same("second lot", line.lot(9, 99, 50), 1);
        Check.same("third lot", line.lot(0, 1, 1), 2);
        line.order(0);
        Check.same("lot with a car", line.lot(4, 50, 25), 3);
        Check.same("units", line.units(1), 50);
        Check.same("units", line.units(3), 25);
    }

    private static void lotRefuses() {
        TaktLine line = new TaktLine();
        for (int kind : new int[] {-1, 10, Lines.MIN, Lines.MAX}) {
            Check.refusesIndex("lot, kind " + kind, line, () -> line.lot(kind, 1, 1));
            Check.refusesIndex("lot, all", line, () -> line.lot(kind, 0, 0));
        }
        for (int version : new int[] {-1, 0, 100, Lines.MIN, Lines.MAX}) {
            Check.refusesArgument("lot, version " + version, line, () -> line.lot(0, version, 1));
        }
        for (int units : new int[] {-1, 0, 51, Lines.MIN, Lines.MAX}) {
            Check.refusesArgument("lot, units " + units, line, () -> line.lot(0, 1, units));
        }
        Check.same("the first lot after them", line.lot(0, 1, 1), 0);
    }

    private static void lotsUpToForty() {
        TaktLine line = new TaktLine();
        for (int l = 0; l < 40; l++) {
            Check.same("lot", line.lot(l % 10, 1 + l, 1 + l), l);
        }
        Check.refusesState("lot 40", line, () -> line.lot(0, 1, 1));
        Check.refusesArgument("version at lot 40", line, () -> line.lot(0, 0, 1));
        Check.refusesArgument("units at lot 40", line, () -> line.lot(0, 1, 51));
        Check.refusesIndex("kind at lot 40", line, () -> line.lot(10, 1, 1));
        line.recall(39);
        Check.refusesState("lot 40 with a recalled one", line, () -> line.lot(0, 1, 1));
        Check.same("units of lot 39", line.units(39), 40);
    }

    private static void recallCounts() {
        TaktLine line = new TaktLine();
        line.kind(3, 0, 0, 1, false);
        line.kind(4, 0, 0, 0, false);
        line.lot(3, 1, 9);
        line.lot(4, 1, 9);
        line.lot(3, 1, 9);
        line.order(0);
        line.order(1);
        line.order(0);
        line.order(0);
        line.takt(3);
        Check.same("recall of a lot in two cars", line.recall(0), 2);
        Check.same("lacks at once", line.lacks(0), 8);
        Check.same("lacks of a car without it", line.lacks(1), 0);
        Check.same("recall of a lot in three cars", line.recall(1), 3);
        Check.same("recall of a lot in no car", line.recall(2), 0);
        Check.same("the unit stays in", line.lotIn(0, 3), 0);
    }

    private static void recallCountsCarsThatLeft() {
        TaktLine line = new TaktLine();
        line.kind(0, 0, 0, 0, true);
        line.lot(0, 1, 9);
        line.order(0);
        line.order(0);
        line.takt(6);
        line.sign(line.build(0), 0);
        line.flash(0, 0);
        Check.same("it leaves", line.takt(3), 1);
        Check.same("recall with one that left", line.recall(0), 2);
        Check.same("atLarge", line.atLarge(), 1);
    }

    private static void recallRefuses() {
        TaktLine line = new TaktLine();
        Check.refusesIndex("recall with no lot", line, () -> line.recall(0));
        line.lot(0, 1, 1);
        for (int lot : new int[] {-1, 1, 40, Lines.MIN, Lines.MAX}) {
            Check.refusesIndex("recall " + lot, line, () -> line.recall(lot));
        }
        Check.same("recall", line.recall(0), 0);
        Check.refusesState("recall again", line, () -> line.recall(0));
    }

    private static void unitsAreCounted() {
        TaktLine line = new TaktLine();
        line.kind(0, 0, 0, 0, false);
        line.lot(0, 1, 2);
        line.lot(0, 1, 5);
        line.order(0);
        line.order(0);
        line.order(0);
        Check.same("units at first", line.units(0), 2);
        line.takt(1);
        Check.same("units after a pick", line.units(0), 1);
        line.takt(1);
        Check.same("units after two", line.units(0), 0);
        line.takt(1);
        Check.same("units of a lot that is empty", line.units(0), 0);
        Check.same("units of the next lot", line.units(1), 4);
        line.recall(1);
        Check.same("units of a recalled lot", line.units(1), 4);
        line.takt(2);
        Check.same("a scrapped unit does not come back", line.units(1), 4);
        Check.same("scrapped", line.scrapped(), 1);
    }

    private static void unitsRefuses() {
        TaktLine line = new TaktLine();
        Check.refusesIndex("units with no lot", line, () -> line.units(0));
        line.lot(0, 1, 1);
        for (int lot : new int[] {-1, 1, 40, Lines.MIN, Lines.MAX}) {
            Check.refusesIndex("units " + lot, line, () -> line.units(lot));
        }
    }

    private static void objectsAreApart() {
        TaktLine one = new TaktLine();
        TaktLine other = new TaktLine();
        one.kind(0, 0, 0, 0, true);
        one.lot(0, 1, 1);
        one.order(0);
        one.takt(1);
        other.order(0);
        Check.same("needs of the other's car", other.needs(0), 0);
        Check.same("takts of the other", other.takts(), 0);
        Check.same("lots of the other", Check.isLot(other, 0), false);
    }
}
