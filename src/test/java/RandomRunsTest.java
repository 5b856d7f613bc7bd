import java.util.Arrays;

/** Long runs of calls, good and bad, against the Model; the numbers are drawn from fixed seeds. */
public final class RandomRunsTest {
    private static final int RUNS = 300;
    private static final int CALLS = 512;
    private static final String INDEX = "IndexOutOfBoundsException";
    private static final String ARGUMENT = "IllegalArgumentException";
    private static final String STATE = "IllegalStateException";
    private static final int[] EXTREMES = {Integer.MIN_VALUE, -256, -2, -1, 0, 1, 4, 5, 6, 7, 8, 9, 10, 20, 21, 29, 30,
        31, 32, 39, 40, 41, 50, 51, 99, 100, 255, 256, Integer.MAX_VALUE};

    private long seed;
    private final TaktLine line = new TaktLine();
    private final Model model = new Model();
    private static int departures = 0;
    private static int returns = 0;

    private RandomRunsTest(long seed) {
        this.seed = seed * 7919 + 17;
    }

    public static void main(String[] args) {
        for (int run = 0; run < RUNS; run++) {
            new RandomRunsTest(run).play(run);
        }
        Check.same("cars leave in these runs", departures > RUNS, true);
        Check.same("cars that left are recalled in these runs", returns > RUNS / 4, true);
        System.out.println(departures + " cars left, " + returns + " of them with a recalled unit");
        Check.end();
    }

    private int draw(int bound) {
        seed = seed * 6364136223846793005L + 1442695040888963407L;
        return (int) ((seed >>> 33) % bound);
    }

    /** Mostly a number from 0 to bound - 1, now and then one that is no such number. */
    private int number(int bound) {
        if (bound == 0 || draw(40) == 0) {
            return EXTREMES[draw(EXTREMES.length)];
        }
        return draw(bound);
    }

    private void play(int run) {
        int setUp = 5 + draw(8);
        for (int i = 0; i < setUp; i++) {
            kind();
        }
        for (int i = 0; i < 6; i++) {
            lot();
        }
        for (int call = setUp + 6; call < CALLS; call++) {
            step();
            if (call % 4 == 0 || call > CALLS - 8) {
                Check.same("run " + run + ", call " + call, Check.state(line), model.state());
            }
        }
        departures += model.left.size();
        returns += model.atLarge();
    }

    private void step() {
        int choice = draw(100);
        if (choice < 12) {
            lot();
        } else if (choice < 15) {
            recall();
        } else if (choice < 25) {
            order();
        } else if (choice < 50) {
            takt();
        } else if (choice < 53) {
            fault();
        } else if (choice < 58) {
            sign(number(model.images.size()), number(model.options.size()));
        } else if (choice < 63) {
            flash(number(model.options.size()), number(model.images.size()));
        } else if (choice < 66) {
            build(number(model.options.size()));
        } else if (choice < 67) {
            kind();
        } else {
            flashCarAtFiveToSeven();
        }
    }

    private void flashCarAtFiveToSeven() {
        Integer car = model.carAt(draw(10) < 8 ? 5 : 6 + draw(2));
        if (car == null || draw(2) == 0) {
            takt();
            return;
        }
        build(car);
        int image = model.images.indexOf(model.contents(car));
        if (draw(8) > 0) {
            sign(image, car);
        }
        flash(car, image);
    }

    private boolean isCar(int car) {
        return car >= 0 && car < model.options.size();
    }

    private boolean isImage(int image) {
        return image >= 0 && image < model.images.size();
    }

    private static boolean within(int number, int low, int high) {
        return number >= low && number <= high;
    }

    private interface Call {
        long answer();
    }

    private static String outcome(Call call) {
        try {
            return String.valueOf(call.answer());
        } catch (RuntimeException e) {
            return Check.thrown(e);
        }
    }

    private void compare(String call, Call got, String thrown, Call due) {
        String expected = thrown == null ? outcome(due) : "java.lang." + thrown;
        Check.same(call, outcome(got), expected);
    }

    private void kind() {
        int kind = number(10);
        int station = number(5);
        int with = draw(2) == 0 ? 0 : number(256) & ~(draw(2) * 252);
        int without = draw(3) > 0 ? 0 : 1 << number(8);
        boolean soft = draw(2) == 0;
        String thrown = !within(kind, 0, 9) ? INDEX
                : !within(station, 0, 4) || !within(with, 0, 255) || !within(without, 0, 255) ? ARGUMENT
                : !model.options.isEmpty() ? STATE : null;
        compare("kind", () -> {
            line.kind(kind, station, with, without, soft);
            return 0;
        }, thrown, () -> {
            model.station[kind] = station;
            model.with[kind] = with;
            model.without[kind] = without;
            model.software[kind] = soft;
            return 0;
        });
    }

    private void lot() {
        int kind = number(10);
        int version = draw(3) > 0 ? 1 + draw(3) : number(100);
        int units = 1 + number(draw(2) == 0 ? 4 : 50);
        String thrown = !within(kind, 0, 9) ? INDEX
                : !within(version, 1, 99) || !within(units, 1, 50) ? ARGUMENT
                : model.lots.size() == 40 ? STATE : null;
        compare("lot", () -> line.lot(kind, version, units), thrown, () -> {
            model.lots.add(new int[] {kind, version, units});
            return model.lots.size() - 1;
        });
    }

    private void recall() {
        int lot = number(model.lots.size());
        String thrown = lot < 0 || lot >= model.lots.size() ? INDEX : model.recalled.contains(lot) ? STATE : null;
        compare("recall", () -> line.recall(lot), thrown, () -> model.recall(lot));
    }

    private void order() {
        int options = number(256);
        String thrown = !within(options, 0, 255) ? ARGUMENT : model.options.size() == 30 ? STATE : null;
        compare("order", () -> line.order(options), thrown, () -> model.order(options));
    }

    private void takt() {
        int takts = draw(12) > 0 ? 1 + draw(2) : number(21);
        String thrown = !within(takts, 1, 20) ? ARGUMENT : null;
        compare("takt", () -> line.takt(takts), thrown, () -> model.takt(takts));
    }

    private void fault() {
        int car = number(model.options.size());
        String thrown = !isCar(car) ? INDEX : model.left.contains(car) ? STATE : null;
        compare("fault", () -> line.fault(car) ? 1 : 0, thrown, () -> model.faults.add(car) ? 1 : 0);
    }

    private void build(int car) {
        String thrown = !isCar(car) ? INDEX : model.images.size() == 40 && model.buildsNew(car) ? STATE : null;
        compare("build", () -> line.build(car), thrown, () -> model.build(car));
    }

    private void sign(int image, int car) {
        String thrown = !isImage(image) || !isCar(car) ? INDEX : null;
        compare("sign", () -> line.sign(image, car) ? 1 : 0, thrown,
                () -> model.signs.add(Arrays.asList(image, car)) ? 1 : 0);
    }

    private void flash(int car, int image) {
        String thrown = !isCar(car) || !isImage(image) ? INDEX
                : model.stationOfCar.getOrDefault(car, -1) < 5 ? STATE : null;
        compare("flash", () -> line.flash(car, image), thrown, () -> model.flash(car, image));
    }
}
