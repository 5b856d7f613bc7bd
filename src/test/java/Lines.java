/** Lines that the tests start from, and steps and looks that several of them take. */
final class Lines {
    static final int MIN = Integer.MIN_VALUE;
    static final int MAX = Integer.MAX_VALUE;

    private Lines() {
    }

    /** Kind 0 is fitted at the station 0, and every car needs it; nothing has software. */
    static TaktLine plain(int cars) {
        TaktLine line = new TaktLine();
        line.kind(0, 0, 0, 0, false);
        line.lot(0, 1, 50);
        order(line, cars);
        return line;
    }

    /** The kind k is fitted at the station k, for k from 0 to 4; the lot k is of the kind k; nothing has software. */
    static TaktLine full(int cars) {
        TaktLine line = new TaktLine();
        for (int k = 0; k < 5; k++) {
            line.kind(k, k, 0, 0, false);
            line.lot(k, 1, 50);
        }
        order(line, cars);
        return line;
    }

    /** Kinds 0 (station 0) and 1 (station 1) have software, kind 2 (station 2) has none; all cars need all. */
    static TaktLine soft(int cars) {
        TaktLine line = new TaktLine();
        line.kind(0, 0, 0, 0, true);
        line.kind(1, 1, 0, 0, true);
        line.kind(2, 2, 0, 0, false);
        line.lot(0, 11, 50);
        line.lot(1, 22, 50);
        line.lot(2, 33, 50);
        order(line, cars);
        return line;
    }

    /** One kind alone is fitted, at a station, and every car needs it; it has one lot, of the version 7. */
    static TaktLine only(int kind, int station, boolean software, int cars) {
        TaktLine line = new TaktLine();
        line.kind(kind, station, 0, 0, software);
        line.lot(kind, 7, 50);
        order(line, cars);
        return line;
    }

    /**
     * The station 1 is taken by the car 2, that waits for a kind that only it needs; the cars 0 and 1 are at 3 and 2,
     * with units of the lot 0 of the station 0, the lot 1 of the station 1, and the lot 2 of the station 2.
     */
    static TaktLine withTheStationOneTaken() {
        TaktLine line = new TaktLine();
        line.kind(0, 0, 0, 0, false);
        line.kind(1, 1, 0, 1, false);
        line.kind(2, 1, 1, 0, false);
        line.kind(3, 2, 0, 1, false);
        line.lot(0, 1, 50);
        line.lot(1, 1, 50);
        line.lot(3, 1, 50);
        line.order(0);
        line.order(0);
        line.order(1);
        line.takt(4);
        onLine(line, 0, 3);
        onLine(line, 1, 2);
        onLine(line, 2, 1);
        return line;
    }

    static void order(TaktLine line, int cars) {
        for (int c = 0; c < cars; c++) {
            line.order(0);
        }
    }

    static void flashSigned(TaktLine line, int car) {
        int image = line.build(car);
        line.sign(image, car);
        line.flash(car, image);
    }

    /** From the start of the line to the station 7, tested: no other car may stand in its way. */
    static void toTheLastStation(TaktLine line, int car) {
        line.takt(6);
        flashSigned(line, car);
        line.takt(2);
        onLine(line, car, 7);
        Check.same("tested at the station 7", line.isTested(car), true);
    }

    static void at(TaktLine line, int car, int where, int station) {
        Check.same("whereIs(" + car + ") after " + line.takts(), line.whereIs(car), where);
        Check.same("stationOf(" + car + ") after " + line.takts(), line.stationOf(car), station);
        if (where == TaktLine.ON_LINE) {
            Check.same("carAt(" + station + ") after " + line.takts(), line.carAt(station), car);
        }
    }

    static void onLine(TaktLine line, int car, int station) {
        at(line, car, TaktLine.ON_LINE, station);
    }

    static void inLane(TaktLine line, int car, int station) {
        at(line, car, TaktLine.LANE, station);
    }

    static void ordered(TaktLine line, int car) {
        at(line, car, TaktLine.ORDERED, TaktLine.NONE);
    }

    static void left(TaktLine line, int car) {
        at(line, car, TaktLine.LEFT, TaktLine.NONE);
    }

    /** The lot in a car, asked for in both ways. */
    static void lots(TaktLine line, int car, int kind, int due) {
        Check.same("lotIn(" + car + ", " + kind + ")", line.lotIn(car, kind), due);
        Check.same("lotByPicks(" + car + ", " + kind + ")", line.lotByPicks(car, kind), due);
    }
}
