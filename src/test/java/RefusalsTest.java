/** "Exceptions": when each is thrown, which one first if several apply, and that a call that throws changes nothing. */
public final class RefusalsTest {
    private static final int[] NO_NUMBERS = {Lines.MIN, -1, 40, Lines.MAX};

    private interface Step {
        void on(TaktLine line);
    }

    public static void main(String[] args) {
        kindFirstIndexThenArgumentThenState();
        lotFirstIndexThenArgumentThenState();
        orderFirstArgumentThenState();
        buildFirstIndexThenState();
        flashFirstIndexThenState();
        signAndQuestionsOfTwoNumbers();
        faultAtEachPlace();
        flashAtEachPlace();
        recallOfARecalledLot();
        kindWithCars();
        aNewLineRefusesAllNumbers();
        changesNothing("an empty line", line -> { }, RefusalsTest::refuseOnAnEmptyLine);
        changesNothing("a line of kinds", RefusalsTest::kinds, RefusalsTest::refuseOnAnEmptyLine);
        changesNothing("a busy line", RefusalsTest::busy, RefusalsTest::refuseOnABusyLine);
        changesNothing("a line with a lane", RefusalsTest::busyWithALane, RefusalsTest::refuseOnABusyLine);
        changesNothing("a full line", RefusalsTest::full, RefusalsTest::refuseOnAFullLine);
        questionsChangeNothing("an empty line", line -> { });
        questionsChangeNothing("a line of kinds", RefusalsTest::kinds);
        questionsChangeNothing("a busy line", RefusalsTest::busy);
        questionsChangeNothing("a line with a lane", RefusalsTest::busyWithALane);
        questionsChangeNothing("a full line", RefusalsTest::full);
        Check.end();
    }

    // ---- which one first

    private static void kindFirstIndexThenArgumentThenState() {
        TaktLine line = new TaktLine();
        Check.refusesIndex("kind and station", line, () -> line.kind(10, 5, 0, 0, true));
        Check.refusesIndex("kind and with", line, () -> line.kind(-1, 0, 256, 0, true));
        Check.refusesIndex("kind and without", line, () -> line.kind(-1, 0, 0, -1, true));
        line.order(0);
        Check.refusesIndex("kind, station and cars", line, () -> line.kind(10, -1, 0, 0, true));
        Check.refusesIndex("kind and cars", line, () -> line.kind(10, 0, 0, 0, true));
        Check.refusesArgument("station and cars", line, () -> line.kind(9, 5, 0, 0, true));
        Check.refusesArgument("with and cars", line, () -> line.kind(9, 4, 256, 0, true));
        Check.refusesArgument("without and cars", line, () -> line.kind(9, 4, 0, 256, true));
        Check.refusesState("cars alone", line, () -> line.kind(9, 4, 255, 255, true));
    }

    private static void lotFirstIndexThenArgumentThenState() {
        TaktLine line = new TaktLine();
        Check.refusesIndex("kind and version", line, () -> line.lot(10, 100, 1));
        Check.refusesIndex("kind and units", line, () -> line.lot(-1, 1, 0));
        for (int l = 0; l < 40; l++) {
            line.lot(9, 99, 50);
        }
        Check.refusesIndex("kind, version and 40", line, () -> line.lot(10, 0, 1));
        Check.refusesIndex("kind and 40", line, () -> line.lot(10, 1, 1));
        Check.refusesArgument("version and 40", line, () -> line.lot(9, 100, 1));
        Check.refusesArgument("units and 40", line, () -> line.lot(9, 1, 51));
        Check.refusesState("40 alone", line, () -> line.lot(9, 99, 50));
    }

    private static void orderFirstArgumentThenState() {
        TaktLine line = new TaktLine();
        Lines.order(line, 30);
        Check.refusesArgument("options and 30", line, () -> line.order(256));
        Check.refusesArgument("options and 30", line, () -> line.order(-1));
        Check.refusesState("30 alone", line, () -> line.order(255));
    }

    private static void buildFirstIndexThenState() {
        TaktLine line = new TaktLine();
        full(line);
        Check.refusesIndex("car and 40", line, () -> line.build(30));
        Check.refusesIndex("car and 40", line, () -> line.build(-1));
        Check.refusesState("40 alone", line, () -> line.build(0));
        Check.same("40 with an image that is there", line.build(29), 0);
    }

    private static void flashFirstIndexThenState() {
        TaktLine line = Lines.plain(2);
        Check.refusesIndex("image of an ordered car", line, () -> line.flash(0, 0));
        line.build(0);
        Check.refusesIndex("image of an ordered car", line, () -> line.flash(0, 1));
        Check.refusesIndex("car and image", line, () -> line.flash(2, 1));
        Check.refusesIndex("car", line, () -> line.flash(2, 0));
        Check.refusesState("place alone", line, () -> line.flash(0, 0));
        Lines.toTheLastStation(line, 0);
        Check.refusesIndex("image at the last station", line, () -> line.flash(0, 1));
        Check.refusesIndex("image of a car at the station 5", line, () -> line.flash(1, -1));
    }

    private static void signAndQuestionsOfTwoNumbers() {
        TaktLine line = Lines.plain(1);
        line.build(0);
        for (int number : NO_NUMBERS) {
            Check.refusesIndex("sign, image " + number, line, () -> line.sign(number, 0));
            Check.refusesIndex("sign, car " + number, line, () -> line.sign(0, number));
            Check.refusesIndex("sign, both " + number, line, () -> line.sign(number, number));
            Check.refusesIndex("lotIn, car " + number, line, () -> line.lotIn(number, 0));
            Check.refusesIndex("lotIn, kind " + number, line, () -> line.lotIn(0, number));
            Check.refusesIndex("lotIn, both " + number, line, () -> line.lotIn(number, number));
            Check.refusesIndex("lotByPicks, car " + number, line, () -> line.lotByPicks(number, 0));
            Check.refusesIndex("lotByPicks, kind " + number, line, () -> line.lotByPicks(0, number));
            Check.refusesIndex("lotByPicks, both " + number, line, () -> line.lotByPicks(number, number));
            Check.refusesIndex("versionIn, image " + number, line, () -> line.versionIn(number, 0));
            Check.refusesIndex("versionIn, kind " + number, line, () -> line.versionIn(0, number));
            Check.refusesIndex("versionIn, both " + number, line, () -> line.versionIn(number, number));
        }
    }

    // ---- when each is thrown

    private static void faultAtEachPlace() {
        for (int takts = 0; takts < 9; takts++) {
            TaktLine line = new TaktLine();
            line.order(0);
            passWithAnImage(line, takts);
            Check.same("fault after " + takts + " takts", line.fault(0), true);
            Check.same("fault again after " + takts + " takts", line.fault(0), false);
        }
        TaktLine line = new TaktLine();
        line.order(0);
        passWithAnImage(line, 9);
        Check.refusesState("fault of a car that left", line, () -> line.fault(0));
        TaktLine withLane = new TaktLine();
        busyWithALane(withLane);
        Lines.inLane(withLane, 5, 1);
        Check.same("fault of a car in the lane", withLane.fault(5), true);
    }

    /** The car 0 has an image that is signed for it from the station 5 on, and leaves in the ninth takt. */
    private static void passWithAnImage(TaktLine line, int takts) {
        for (int t = 0; t < takts; t++) {
            if (t == 6) {
                Lines.flashSigned(line, 0);
            }
            line.takt(1);
        }
    }

    private static void flashAtEachPlace() {
        for (int takts = 0; takts < 10; takts++) {
            TaktLine line = new TaktLine();
            line.order(0);
            line.build(0);
            passWithAnImage(line, takts);
            int due = takts == 6 ? TaktLine.NONE : 0;
            if (takts < 6 || takts == 9) {
                Check.refusesState("flash after " + takts + " takts", line, () -> line.flash(0, 0));
            } else {
                Check.same("flash after " + takts + " takts", line.flash(0, 0), due);
            }
        }
        for (int station = 1; station < 6; station++) {
            TaktLine line = laneFor(station);
            Check.refusesState("flash in the lane for " + station, line, () -> line.flash(0, 0));
        }
    }

    /** The car 0 is in the lane for the station; the car 1 is there, and waits. */
    private static TaktLine laneFor(int station) {
        TaktLine line = new TaktLine();
        if (station < 5) {
            line.kind(0, station, 1, 0, false);
            line.kind(1, station, 2, 0, false);
        }
        line.lot(0, 1, 1);
        line.order(1);
        line.order(2);
        line.takt(6);
        line.flash(0, line.build(0));
        line.takt(1);
        Lines.onLine(line, 0, 6);
        Lines.onLine(line, 1, station);
        if (station < 5) {
            line.recall(0);
        }
        line.takt(1);
        Lines.inLane(line, 0, station);
        return line;
    }

    private static void recallOfARecalledLot() {
        TaktLine line = Lines.full(1);
        for (int l = 0; l < 5; l++) {
            int lot = l;
            Check.same("recall", line.recall(lot), 0);
            Check.refusesState("recall again", line, () -> line.recall(lot));
        }
        Check.refusesIndex("recall of lot 5", line, () -> line.recall(5));
    }

    private static void kindWithCars() {
        TaktLine line = new TaktLine();
        line.kind(0, 0, 0, 0, true);
        line.lot(0, 1, 1);
        line.takt(1);
        line.kind(0, 0, 0, 0, true);
        line.order(0);
        Check.refusesState("kind with an ordered car", line, () -> line.kind(1, 0, 0, 0, true));
        passWithAnImage(line, 9);
        Lines.left(line, 0);
        Check.refusesState("kind with one that left", line, () -> line.kind(1, 0, 0, 0, true));
    }

    private static void aNewLineRefusesAllNumbers() {
        TaktLine line = new TaktLine();
        for (int number : new int[] {Lines.MIN, -1, 0, 1, 29, 30, 39, 40, Lines.MAX}) {
            refuseLot(line, number);
            refuseCar(line, number);
            refuseImage(line, number);
        }
    }

    // ---- what is refused

    private static void refuseLot(TaktLine line, int lot) {
        Check.refusesIndex("recall(" + lot + ")", line, () -> line.recall(lot));
        Check.refusesIndex("units(" + lot + ")", line, () -> line.units(lot));
    }

    private static void refuseCar(TaktLine line, int car) {
        Check.refusesIndex("fault(" + car + ")", line, () -> line.fault(car));
        Check.refusesIndex("whereIs(" + car + ")", line, () -> line.whereIs(car));
        Check.refusesIndex("stationOf(" + car + ")", line, () -> line.stationOf(car));
        Check.refusesIndex("needs(" + car + ")", line, () -> line.needs(car));
        Check.refusesIndex("lacks(" + car + ")", line, () -> line.lacks(car));
        Check.refusesIndex("lotIn(" + car + ", 0)", line, () -> line.lotIn(car, 0));
        Check.refusesIndex("lotByPicks(" + car + ", 0)", line, () -> line.lotByPicks(car, 0));
        Check.refusesIndex("build(" + car + ")", line, () -> line.build(car));
        Check.refusesIndex("sign(0, " + car + ")", line, () -> line.sign(0, car));
        Check.refusesIndex("flash(" + car + ", 0)", line, () -> line.flash(car, 0));
        Check.refusesIndex("imageOf(" + car + ")", line, () -> line.imageOf(car));
        Check.refusesIndex("isFit(" + car + ")", line, () -> line.isFit(car));
        Check.refusesIndex("isTested(" + car + ")", line, () -> line.isTested(car));
    }

    private static void refuseImage(TaktLine line, int image) {
        Check.refusesIndex("sign(" + image + ", 0)", line, () -> line.sign(image, 0));
        Check.refusesIndex("flash(0, " + image + ")", line, () -> line.flash(0, image));
        Check.refusesIndex("versionIn(" + image + ", 0)", line, () -> line.versionIn(image, 0));
    }

    private static void refuseArguments(TaktLine line) {
        Check.refusesArgument("kind, station", line, () -> line.kind(0, 5, 1, 1, true));
        Check.refusesArgument("kind, with", line, () -> line.kind(0, 3, 256, 1, true));
        Check.refusesArgument("kind, without", line, () -> line.kind(0, 3, 1, -1, true));
        Check.refusesIndex("kind 10", line, () -> line.kind(10, 3, 1, 1, true));
        Check.refusesArgument("lot, version", line, () -> line.lot(0, 100, 1));
        Check.refusesArgument("lot, units", line, () -> line.lot(0, 1, 51));
        Check.refusesIndex("lot of the kind 10", line, () -> line.lot(10, 1, 1));
        Check.refusesArgument("order(256)", line, () -> line.order(256));
        Check.refusesArgument("takt(0)", line, () -> line.takt(0));
        Check.refusesArgument("takt(21)", line, () -> line.takt(21));
        Check.refusesArgument("carAt(8)", line, () -> line.carAt(8));
        Check.refusesArgument("carAt(-1)", line, () -> line.carAt(-1));
    }

    private static void refuseOnAnEmptyLine(TaktLine line) {
        refuseArguments(line);
        refuseCar(line, 0);
        refuseImage(line, 0);
        for (int number : NO_NUMBERS) {
            refuseLot(line, number);
            refuseCar(line, number);
            refuseImage(line, number);
        }
    }

    private static void refuseOnABusyLine(TaktLine line) {
        refuseArguments(line);
        for (int number : NO_NUMBERS) {
            refuseLot(line, number);
            refuseCar(line, number);
            refuseImage(line, number);
        }
        for (int k = 0; k < 10; k++) {
            int kind = k;
            Check.refusesState("kind with cars", line, () -> line.kind(kind, 4, 3, 4, true));
        }
        Check.refusesState("recall of a recalled lot", line, () -> line.recall(5));
        for (int c = 0; Check.isCar(line, c); c++) {
            refuseByPlace(line, c);
        }
    }

    private static void refuseByPlace(TaktLine line, int car) {
        Check.refusesIndex("flash with no such image", line, () -> line.flash(car, line.images()));
        Check.refusesIndex("sign of no such image", line, () -> line.sign(line.images(), car));
        if (line.whereIs(car) != TaktLine.ON_LINE || line.stationOf(car) < 5) {
            for (int i = 0; i < line.images(); i++) {
                int image = i;
                Check.refusesState("flash where it is", line, () -> line.flash(car, image));
            }
        }
        if (line.whereIs(car) == TaktLine.LEFT) {
            Check.refusesState("fault of one that left", line, () -> line.fault(car));
        }
    }

    private static void refuseOnAFullLine(TaktLine line) {
        refuseArguments(line);
        Check.refusesState("lot 40", line, () -> line.lot(3, 3, 3));
        Check.refusesState("car 30", line, () -> line.order(3));
        Check.refusesState("image 40", line, () -> line.build(0));
        for (int number : NO_NUMBERS) {
            refuseLot(line, number);
            refuseCar(line, number);
            refuseImage(line, number);
        }
        refuseCar(line, 30);
    }

    // ---- that nothing changes

    /** On two like lines the same calls follow, on one of them after those that are refused. */
    private static void changesNothing(String what, Step before, Step refused) {
        TaktLine told = new TaktLine();
        TaktLine untold = new TaktLine();
        before.on(told);
        before.on(untold);
        refused.on(told);
        Check.same("after what was refused on " + what, Probe.of(told), Probe.of(untold));
    }

    private static void questionsChangeNothing(String what, Step before) {
        TaktLine asked = new TaktLine();
        TaktLine unasked = new TaktLine();
        before.on(asked);
        before.on(unasked);
        String first = Check.state(asked);
        Check.same("asked again of " + what, Check.state(asked), first);
        asked.takt(1);
        unasked.takt(1);
        Check.same("after the questions to " + what, Probe.of(asked), Probe.of(unasked));
    }

    private static void kinds(TaktLine line) {
        line.kind(0, 0, 0, 0, true);
        line.kind(1, 1, 0, 0, true);
        line.kind(2, 2, 0, 0, false);
        line.kind(3, 1, 1, 0, false);
        line.kind(4, 1, 2, 0, false);
        line.lot(0, 11, 50);
        line.lot(1, 21, 4);
        line.lot(1, 22, 50);
        line.lot(2, 31, 50);
        line.lot(3, 41, 1);
        line.lot(0, 12, 50);
    }

    // Cars 0 and 1 have left, 2 is tested at the station 7, 3 has failed at 6, 8 waits at 1 for a lot, 10 is ordered.
    private static void busy(TaktLine line) {
        kinds(line);
        line.recall(5);
        for (int c = 0; c < 12; c++) {
            line.order(c == 5 ? 1 : c == 8 ? 2 : 0);
        }
        line.takt(6);
        for (int c = 0; c < 3; c++) {
            Lines.flashSigned(line, c);
            line.takt(1);
        }
        line.flash(3, 0);
        line.fault(9);
        line.takt(1);
        Lines.left(line, 1);
        Lines.onLine(line, 2, 7);
        Lines.onLine(line, 3, 6);
        Lines.onLine(line, 8, 1);
        Lines.ordered(line, 10);
        Check.same("one has failed", line.failed(), 1);
    }

    private static void busyWithALane(TaktLine line) {
        busy(line);
        line.recall(4);
        line.takt(1);
        Lines.inLane(line, 3, 5);
        Lines.inLane(line, 5, 1);
        Lines.onLine(line, 4, 5);
        Lines.onLine(line, 8, 1);
    }

    // 40 lots, 30 cars and 40 images; the car 0 has what no image was built for, the car 29 has nothing.
    private static void full(TaktLine line) {
        line.kind(0, 0, 0, 0, true);
        line.kind(1, 1, 0, 0, true);
        Lines.order(line, 30);
        line.build(0);
        for (int l = 0; l < 39; l++) {
            line.lot(0, 1 + l, 1);
            line.takt(1);
            line.build(0);
            if (l < 38) {
                line.recall(l);
            }
        }
        for (int i = 0; i < 40; i += 13) {
            line.sign(i, i % 30);
        }
        line.lot(1, 5, 1);
        line.takt(1);
        Check.same("images", line.images(), 40);
    }
}
