/**
 * Plays one long run of calls on a line, and gives all that was answered: two lines that differ in anything, seen by
 * a question or not (a fault that was told, a sign, a test that failed, the order in the lane), give other texts.
 */
final class Probe {
    private final TaktLine line;
    private final StringBuilder text = new StringBuilder();

    private interface Call {
        Object answer();
    }

    private Probe(TaktLine line) {
        this.line = line;
    }

    static String of(TaktLine line) {
        Probe probe = new Probe(line);
        probe.look();
        probe.addLotsAndCars();
        probe.signAll();
        probe.passTakts();
        probe.tellAllFaults();
        probe.recallAll();
        probe.passTakts();
        return probe.text.toString();
    }

    private void look() {
        text.append(Check.state(line)).append('\n');
    }

    private void add(String what, Call call) {
        String answer;
        try {
            answer = String.valueOf(call.answer());
        } catch (RuntimeException e) {
            answer = Check.thrown(e);
        }
        text.append(what).append(' ').append(answer).append('\n');
    }

    // One takt goes ahead, in which a car goes back if its latest test failed.
    private void addLotsAndCars() {
        add("takt", () -> line.takt(1));
        look();
        for (int k = 0; k < 10; k++) {
            int kind = k;
            add("lot", () -> line.lot(kind, 60 + kind, 9));
        }
        for (int options : new int[] {0, 1, 2, 255}) {
            add("order", () -> line.order(options));
        }
    }

    private void signAll() {
        for (int i = 0; i < line.images(); i++) {
            for (int c = 0; Check.isCar(line, c); c++) {
                int image = i;
                int car = c;
                add("sign", () -> line.sign(image, car));
            }
        }
    }

    private void passTakts() {
        for (int t = 0; t < 15; t++) {
            int car = line.carAt(5);
            if (car != TaktLine.NONE) {
                add("build", () -> line.build(car));
                add("flash", () -> line.flash(car, line.build(car)));
            }
            add("takt", () -> line.takt(1));
            look();
            if (t % 3 == 0) {
                signAll();
            }
        }
    }

    private void tellAllFaults() {
        for (int c = 0; Check.isCar(line, c); c++) {
            int car = c;
            add("fault", () -> line.fault(car));
        }
    }

    private void recallAll() {
        for (int l = 0; Check.isLot(line, l); l += 2) {
            int lot = l;
            add("recall", () -> line.recall(lot));
        }
        look();
    }
}
