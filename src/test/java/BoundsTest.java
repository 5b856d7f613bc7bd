/** What "Terms" and the promises say of the least and the most: each sentence has a test of its own, which names it. */
public final class BoundsTest {
    private static final int[] NO_KINDS = {Lines.MIN, -10, -1, 10, 11, Lines.MAX};

    public static void main(String[] args) {
        eachKindFromZeroToNineIsWhole();
        thereIsNoOtherKind();
        kindsAreFittedAtZeroToFour();
        kindsAreAtTheStationZeroAtFirst();
        kindsNeedAllEightOptionsAtFirst();
        kindsHaveNoSoftwareAtFirst();
        aCarNeedsItWithAllOfTheFirstSet();
        aCarNeedsItWithNoneOfTheSecondSet();
        emptySetsAreForAllCars();
        fullSets();
        setsThatShareAnOptionAreForNoCar();
        lotsAreNumberedFromZeroUpToForty();
        emptyAndRecalledLotsCountAmongTheForty();
        versionsAreOneToNinetyNine();
        unitsAreOneToFifty();
        aLotOfOneUnitServesOneCar();
        aLotIsRecalledForEver();
        carsAreNumberedFromZeroUpToThirty();
        carsThatLeftCountAmongTheThirty();
        optionsAreZeroToSeven();
        orderedCarsStandInARow();
        oneCarAtMostStandsAtAStation();
        stationsAreZeroToSeven();
        stationOfEachPlace();
        imagesAreNumberedFromZeroUpToForty();
        anImageForNothingIsAnImage();
        anImageIsTheSameForCarsItIsNotSignedFor();
        allTenKindsAreInAnImage();
        anyImageIsSignedForAnyCar();
        taktsAreOneToTwenty();
        aRunOf512Calls();
        Check.end();
    }

    // A kind that one loop of the class left out would show in one of the rows here.
    private static void eachKindFromZeroToNineIsWhole() {
        for (int k = 0; k < 10; k++) {
            int station = k % 5;
            TaktLine line = Lines.only(k, station, true, 1);
            Check.same("needs of the kind " + k, line.needs(0), 1 << k);
            Check.same("lacks of the kind " + k, line.lacks(0), 1 << k);
            line.takt(station + 1);
            Lines.onLine(line, 0, station);
            Lines.lots(line, 0, k, 0);
            Check.same("lacks with the kind " + k, line.lacks(0), 0);
            line.takt(5 - station);
            Lines.onLine(line, 0, 5);
            int image = line.build(0);
            Check.same("versionIn of the kind " + k, line.versionIn(image, k), 7);
            line.sign(image, 0);
            line.flash(0, image);
            Check.same("fit with the kind " + k, line.isFit(0), true);
            line.takt(2);
            Lines.onLine(line, 0, 7);
            Check.same("recall of the kind " + k, line.recall(0), 1);
            Check.same("not fit with the kind recalled " + k, line.isFit(0), false);
            Check.same("it does not leave", line.takt(1), 0);
            Lines.onLine(line, 0, station);
            Lines.lots(line, 0, k, TaktLine.NONE);
            line.takt(1);
            Lines.onLine(line, 0, station);
            line.lot(k, 7, 1);
            line.takt(9);
            Lines.left(line, 0);
            Check.same("recall of the second lot", line.recall(1), 1);
            Check.same("atLarge by the kind " + k, line.atLarge(), 1);
        }
    }

    private static void thereIsNoOtherKind() {
        TaktLine line = new TaktLine();
        for (int kind : NO_KINDS) {
            Check.refusesIndex("kind(" + kind + ")", line, () -> line.kind(kind, 0, 0, 0, false));
        }
        line.order(0);
        line.build(0);
        for (int kind : NO_KINDS) {
            Check.refusesIndex("lot of " + kind, line, () -> line.lot(kind, 1, 1));
            Check.refusesIndex("lotIn of " + kind, line, () -> line.lotIn(0, kind));
            Check.refusesIndex("lotByPicks of " + kind, line, () -> line.lotByPicks(0, kind));
            Check.refusesIndex("versionIn of " + kind, line, () -> line.versionIn(0, kind));
        }
    }

    private static void kindsAreFittedAtZeroToFour() {
        for (int station = 0; station < 5; station++) {
            TaktLine line = Lines.only(3, station, false, 1);
            for (int s = 0; s < 5; s++) {
                line.takt(1);
                Lines.onLine(line, 0, s);
                Lines.lots(line, 0, 3, s < station ? TaktLine.NONE : 0);
            }
        }
        TaktLine line = new TaktLine();
        for (int station : new int[] {Lines.MIN, -1, 5, 6, 7, 8, Lines.MAX}) {
            Check.refusesArgument("kind at " + station, line, () -> line.kind(3, station, 0, 0, false));
        }
    }

    private static void kindsAreAtTheStationZeroAtFirst() {
        TaktLine line = new TaktLine();
        for (int k = 0; k < 10; k++) {
            line.lot(k, 1, 1);
        }
        line.order(255);
        line.takt(1);
        Lines.onLine(line, 0, 0);
        for (int k = 0; k < 10; k++) {
            Lines.lots(line, 0, k, k);
        }
    }

    private static void kindsNeedAllEightOptionsAtFirst() {
        TaktLine line = new TaktLine();
        for (int o = 0; o < 8; o++) {
            Check.same("needs without the option " + o, line.needs(line.order(255 - (1 << o))), 0);
            Check.same("needs with the option alone " + o, line.needs(line.order(1 << o)), 0);
        }
        Check.same("needs with all", line.needs(line.order(255)), 1023);
        Check.same("lacks with all", line.lacks(16), 1023);
    }

    private static void kindsHaveNoSoftwareAtFirst() {
        TaktLine line = new TaktLine();
        for (int k = 0; k < 10; k++) {
            line.lot(k, 1 + k, 1);
        }
        line.order(255);
        Check.same("image for nothing", line.build(0), 0);
        line.takt(6);
        Check.same("and for the ten kinds", line.build(0), 0);
        for (int k = 0; k < 10; k++) {
            Check.same("versionIn of " + k, line.versionIn(0, k), 0);
        }
        line.sign(0, 0);
        line.flash(0, 0);
        line.recall(9);
        Check.same("fit, as no software lacks", line.isFit(0), true);
    }

    private static void aCarNeedsItWithAllOfTheFirstSet() {
        for (int o = 0; o < 8; o++) {
            TaktLine line = new TaktLine();
            int bit = 1 << o;
            line.kind(0, 0, bit, 0, false);
            line.kind(1, 0, bit | 1 << (o + 1) % 8, 0, false);
            Check.same("with the option " + o, line.needs(line.order(bit)), 1);
            Check.same("without it " + o, line.needs(line.order(255 - bit)), 0);
            Check.same("with all " + o, line.needs(line.order(255)) & 3, 3);
        }
    }

    private static void aCarNeedsItWithNoneOfTheSecondSet() {
        for (int o = 0; o < 8; o++) {
            TaktLine line = new TaktLine();
            int bit = 1 << o;
            line.kind(0, 0, 0, bit, false);
            line.kind(1, 0, 0, bit | 1 << (o + 1) % 8, false);
            Check.same("with the option " + o, line.needs(line.order(bit)), 0);
            Check.same("without it " + o, line.needs(line.order(255 - bit)), 1);
            Check.same("with none " + o, line.needs(line.order(0)), 3);
        }
    }

    private static void emptySetsAreForAllCars() {
        TaktLine line = new TaktLine();
        line.kind(0, 0, 0, 0, false);
        for (int options : new int[] {0, 1, 85, 128, 170, 254, 255}) {
            Check.same("needs with " + options, line.needs(line.order(options)) & 1, 1);
        }
    }

    private static void fullSets() {
        TaktLine line = new TaktLine();
        line.kind(0, 0, 255, 0, false);
        line.kind(1, 0, 0, 255, false);
        for (int options : new int[] {0, 1, 85, 127, 128, 170, 254, 255}) {
            int due = options == 255 ? 1 : options == 0 ? 2 : 0;
            Check.same("needs with " + options, line.needs(line.order(options)) & 3, due);
        }
    }

    private static void setsThatShareAnOptionAreForNoCar() {
        TaktLine line = new TaktLine();
        for (int k = 0; k < 8; k++) {
            line.kind(k, 0, 1 << k, 1 << k, false);
        }
        line.kind(8, 0, 255, 255, false);
        for (int options : new int[] {0, 1, 85, 128, 170, 254, 255}) {
            Check.same("needs with " + options, line.needs(line.order(options)) & 511, 0);
        }
    }

    private static void lotsAreNumberedFromZeroUpToForty() {
        TaktLine line = new TaktLine();
        for (int l = 0; l < 40; l++) {
            Check.same("there is no such lot " + l, Check.isLot(line, l), false);
            Check.same("lot", line.lot(0, 1, 1 + l), l);
        }
        for (int l = 0; l < 40; l++) {
            Check.same("units of lot " + l, line.units(l), 1 + l);
        }
        Check.refusesState("lot 40", line, () -> line.lot(0, 1, 1));
        Check.refusesIndex("units of lot 40", line, () -> line.units(40));
        Check.refusesIndex("recall of lot 40", line, () -> line.recall(40));
        Check.same("recall of lot 39", line.recall(39), 0);
    }

    private static void emptyAndRecalledLotsCountAmongTheForty() {
        TaktLine line = Lines.plain(1);
        line.lot(9, 1, 1);
        for (int l = 2; l < 40; l++) {
            line.lot(0, 1, 1);
        }
        for (int l = 0; l < 39; l++) {
            line.takt(1);
            if (l != 1) {
                line.recall(l);
            }
        }
        line.takt(1);
        Lines.lots(line, 0, 0, 39);
        Check.same("the last lot is empty", line.units(39), 0);
        Check.same("scrapped", line.scrapped(), 38);
        Check.refusesState("lot 40", line, () -> line.lot(0, 1, 1));
    }

    private static void versionsAreOneToNinetyNine() {
        TaktLine line = new TaktLine();
        line.kind(0, 0, 0, 0, true);
        line.lot(0, 1, 1);
        line.lot(0, 99, 1);
        Lines.order(line, 2);
        line.takt(2);
        Check.same("the least version", line.versionIn(line.build(0), 0), 1);
        Check.same("the highest version", line.versionIn(line.build(1), 0), 99);
        for (int version : new int[] {Lines.MIN, -1, 0, 100, 101, Lines.MAX}) {
            Check.refusesArgument("version " + version, line, () -> line.lot(0, version, 1));
        }
    }

    private static void unitsAreOneToFifty() {
        TaktLine line = new TaktLine();
        Check.same("the fewest", line.units(line.lot(0, 1, 1)), 1);
        Check.same("the most", line.units(line.lot(0, 1, 50)), 50);
        for (int units : new int[] {Lines.MIN, -1, 0, 51, 52, Lines.MAX}) {
            Check.refusesArgument("units " + units, line, () -> line.lot(0, 1, units));
        }
    }

    private static void aLotOfOneUnitServesOneCar() {
        TaktLine line = new TaktLine();
        line.kind(0, 0, 0, 0, false);
        line.lot(0, 1, 1);
        Lines.order(line, 2);
        line.takt(4);
        Lines.lots(line, 0, 0, 0);
        Lines.lots(line, 1, 0, TaktLine.NONE);
        Lines.onLine(line, 1, 0);
        Check.same("units", line.units(0), 0);
    }

    private static void aLotIsRecalledForEver() {
        TaktLine line = Lines.plain(1);
        line.recall(0);
        line.lot(1, 1, 50);
        line.takt(20);
        Lines.lots(line, 0, 0, TaktLine.NONE);
        Check.refusesState("recall after 20 takts", line, () -> line.recall(0));
        line.lot(0, 1, 50);
        line.takt(20);
        Lines.lots(line, 0, 0, 2);
        Check.same("units of the recalled lot", line.units(0), 50);
        Check.refusesState("recall after a new lot", line, () -> line.recall(0));
    }

    private static void carsAreNumberedFromZeroUpToThirty() {
        TaktLine line = Lines.plain(0);
        for (int c = 0; c < 30; c++) {
            Check.same("there is no such car " + c, Check.isCar(line, c), false);
            Check.same("order", line.order(0), c);
        }
        Check.refusesState("car 30", line, () -> line.order(0));
        Check.refusesIndex("whereIs(30)", line, () -> line.whereIs(30));
        line.takt(6);
        for (int c = 0; c < 30; c++) {
            Lines.onLine(line, c, 5);
            Lines.flashSigned(line, c);
            line.takt(1);
        }
        line.takt(2);
        for (int c = 0; c < 30; c++) {
            Lines.left(line, c);
        }
        Check.same("recall of a lot in thirty cars", line.recall(0), 30);
        Check.same("atLarge", line.atLarge(), 30);
        Check.same("units", line.units(0), 20);
    }

    private static void carsThatLeftCountAmongTheThirty() {
        TaktLine line = new TaktLine();
        for (int c = 0; c < 29; c++) {
            line.order(0);
        }
        Lines.toTheLastStation(line, 0);
        Check.same("it leaves", line.takt(1), 1);
        Check.same("the last car", line.order(0), 29);
        Check.refusesState("car 30", line, () -> line.order(0));
    }

    private static void optionsAreZeroToSeven() {
        for (int options = 0; options < 256; options++) {
            TaktLine line = new TaktLine();
            for (int k = 0; k < 8; k++) {
                line.kind(k, 0, 1 << k, 0, false);
            }
            line.kind(8, 0, 255, 255, false);
            line.kind(9, 0, 255, 255, false);
            Check.same("needs with " + options, line.needs(line.order(options)), options);
        }
        TaktLine line = new TaktLine();
        for (int options : new int[] {Lines.MIN, -256, -1, 256, 257, 511, 512, Lines.MAX}) {
            Check.refusesArgument("order(" + options + ")", line, () -> line.order(options));
        }
    }

    private static void orderedCarsStandInARow() {
        TaktLine line = new TaktLine();
        Lines.order(line, 2);
        line.takt(1);
        Lines.onLine(line, 0, 0);
        line.order(128);
        line.takt(1);
        Lines.onLine(line, 1, 0);
        Lines.ordered(line, 2);
        line.takt(1);
        Lines.onLine(line, 2, 0);
        line.takt(1);
        line.order(0);
        Check.same("none comes between takts", line.whereIs(3), TaktLine.ORDERED);
        line.takt(1);
        Lines.onLine(line, 3, 0);
    }

    private static void oneCarAtMostStandsAtAStation() {
        TaktLine line = new TaktLine();
        Lines.order(line, 9);
        line.takt(6);
        for (int c = 0; c < 2; c++) {
            Lines.flashSigned(line, c);
            line.takt(1);
        }
        for (int s = 0; s < 8; s++) {
            Lines.onLine(line, 7 - s, s);
        }
        Lines.ordered(line, 8);
    }

    private static void stationsAreZeroToSeven() {
        TaktLine line = new TaktLine();
        for (int s = 0; s < 8; s++) {
            Check.same("carAt(" + s + ") of no car", line.carAt(s), TaktLine.NONE);
        }
        line.order(0);
        for (int station : new int[] {Lines.MIN, -2, -1, 8, 9, Lines.MAX}) {
            Check.refusesArgument("carAt(" + station + ")", line, () -> line.carAt(station));
        }
        for (int s = 0; s < 8; s++) {
            if (s == 6) {
                Lines.flashSigned(line, 0);
            }
            line.takt(1);
            for (int other = 0; other < 8; other++) {
                Check.same("carAt(" + other + ")", line.carAt(other), other == s ? 0 : TaktLine.NONE);
            }
        }
    }

    private static void stationOfEachPlace() {
        TaktLine line = Lines.full(1);
        Check.same("stationOf an ordered car", line.stationOf(0), TaktLine.NONE);
        for (int s = 0; s < 6; s++) {
            line.takt(1);
            Check.same("stationOf a car on the line", line.stationOf(0), s);
        }
        line.recall(4);
        line.order(0);
        line.lot(4, 1, 50);
        line.takt(1);
        Check.same("stationOf a car that came back", line.stationOf(0), 4);
        line.takt(1);
        Lines.flashSigned(line, 0);
        line.takt(2);
        Check.same("stationOf a car at the last station", line.stationOf(0), 7);
        line.takt(1);
        Check.same("stationOf a car that left", line.stationOf(0), TaktLine.NONE);
        line.takt(2);
        Check.same("the second one waits at the station 5", line.stationOf(1), 5);
        line.order(0);
        line.takt(5);
        Check.same("the third one at the station 4", line.stationOf(2), 4);
        line.recall(5);
        line.takt(1);
        Lines.inLane(line, 1, 4);
    }

    private static void imagesAreNumberedFromZeroUpToForty() {
        TaktLine line = new TaktLine();
        line.kind(0, 0, 0, 0, true);
        line.kind(9, 1, 0, 0, true);
        Lines.order(line, 2);
        for (int l = 0; l < 39; l++) {
            Check.same("images", line.images(), l);
            Check.same("image", line.build(0), l);
            line.lot(0, 1 + l, 1);
            line.takt(1);
            if (l < 38) {
                line.recall(l);
            }
        }
        Check.same("the fortieth image", line.build(0), 39);
        Check.same("images", line.images(), 40);
        for (int i = 0; i < 40; i++) {
            Check.same("versionIn of " + i, line.versionIn(i, 0), i);
            Check.same("sign of " + i, line.sign(i, 1), true);
        }
        line.lot(9, 5, 1);
        line.takt(1);
        Check.refusesState("image 40", line, () -> line.build(0));
        Check.same("the first image, that is there already", line.build(1), 0);
        Check.refusesIndex("sign of 40", line, () -> line.sign(40, 1));
        Check.refusesIndex("versionIn of 40", line, () -> line.versionIn(40, 0));
        Check.refusesIndex("flash with 40", line, () -> line.flash(1, 40));
    }

    private static void anImageForNothingIsAnImage() {
        TaktLine line = Lines.soft(2);
        Check.same("build with nothing in", line.build(1), 0);
        Check.same("build for the other", line.build(0), 0);
        Check.same("images", line.images(), 1);
        for (int k = 0; k < 10; k++) {
            Check.same("versionIn of " + k, line.versionIn(0, k), 0);
        }
    }

    private static void anImageIsTheSameForCarsItIsNotSignedFor() {
        TaktLine line = Lines.soft(2);
        line.takt(7);
        Check.same("build", line.build(0), 0);
        line.sign(0, 0);
        line.flash(0, 0);
        Check.same("build for the other", line.build(1), 0);
        Check.same("images", line.images(), 1);
        Check.same("it is not signed for the other", line.sign(0, 1), true);
    }

    private static void allTenKindsAreInAnImage() {
        TaktLine line = new TaktLine();
        for (int k = 0; k < 10; k++) {
            line.kind(k, 0, 0, 0, true);
            line.lot(k, 90 + k, 1);
            line.lot(k, 80 + k, 1);
        }
        Lines.order(line, 2);
        line.takt(2);
        Check.same("build", line.build(0), 0);
        Check.same("build of the other versions", line.build(1), 1);
        for (int k = 0; k < 10; k++) {
            Check.same("versionIn(0, " + k + ")", line.versionIn(0, k), 90 + k);
            Check.same("versionIn(1, " + k + ")", line.versionIn(1, k), 80 + k);
        }
    }

    private static void anyImageIsSignedForAnyCar() {
        TaktLine line = new TaktLine();
        line.kind(0, 0, 0, 0, true);
        Lines.order(line, 30);
        line.build(0);
        for (int l = 0; l < 39; l++) {
            line.lot(0, 1 + l, 1);
            line.takt(1);
            line.build(0);
            line.recall(l);
        }
        for (int image : new int[] {0, 31, 32, 39}) {
            for (int car : new int[] {0, 15, 29}) {
                Check.same("sign(" + image + ", " + car + ")", line.sign(image, car), true);
                Check.same("sign(" + image + ", " + car + ") again", line.sign(image, car), false);
            }
        }
        Check.same("sign(38, 29)", line.sign(38, 29), true);
        Check.same("sign(39, 28)", line.sign(39, 28), true);
        Check.refusesIndex("sign(39, 30)", line, () -> line.sign(39, 30));
        Check.refusesIndex("sign(39, 32)", line, () -> line.sign(39, 32));
        Check.refusesIndex("sign(40, 29)", line, () -> line.sign(40, 29));
    }

    private static void taktsAreOneToTwenty() {
        for (int takts = 1; takts <= 20; takts++) {
            TaktLine line = new TaktLine();
            Check.same("none leaves an empty line", line.takt(takts), 0);
            Check.same("takts after takt(" + takts + ")", line.takts(), takts);
        }
        TaktLine line = new TaktLine();
        for (int takts : new int[] {Lines.MIN, -20, -1, 0, 21, 22, Lines.MAX}) {
            Check.refusesArgument("takt(" + takts + ")", line, () -> line.takt(takts));
        }
    }

    // The last calls of the longest run answer as they would in a short one: all is full, and many takts have passed.
    private static void aRunOf512Calls() {
        TaktLine line = new TaktLine();
        int calls = 0;
        line.kind(0, 0, 0, 0, true);
        calls++;
        for (int l = 0; l < 40; l++, calls++) {
            line.lot(0, 1 + l, 1);
        }
        for (int c = 0; c < 30; c++, calls++) {
            line.order(0);
        }
        line.takt(6);
        calls++;
        for (int c = 0; c < 29; c++, calls += 4) {
            Check.same("build " + c, line.build(c), c);
            line.sign(c, c);
            line.flash(c, c);
            line.takt(1);
        }
        int passed = 35;
        for (; calls < 508; calls++) {
            line.takt(20);
            passed += 20;
        }
        Check.same("takts after 508 calls", line.takts(), passed);
        Check.same("recall in the call 510", line.recall(28), 1);
        Check.same("atLarge in the call 511", line.atLarge(), 1);
        Check.same("whereIs in the call 512", line.whereIs(29), TaktLine.ON_LINE);
    }
}
