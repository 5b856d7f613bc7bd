/** Counts the answers that are not as due, and ends a test with exit code 1 if there was one. */
final class Check {
    private static final int KINDS = 10;
    private static final int STATIONS = 8;
    private static int checks = 0;
    private static int wrong = 0;

    private Check() {
    }

    static void same(String what, long got, long due) {
        checks++;
        if (got != due) {
            wrong++;
            System.out.println(what + " answered " + got + ", due is " + due);
        }
    }

    static void same(String what, boolean got, boolean due) {
        same(what, got ? 1 : 0, due ? 1 : 0);
    }

    static void same(String what, String got, String due) {
        checks++;
        if (!got.equals(due)) {
            wrong++;
            System.out.println(what + " answered\n" + got + "\ndue is\n" + due);
        }
    }

    /** The very class is due: what the machine throws is of a class below IndexOutOfBoundsException. */
    static void refuses(String what, TaktLine line, Class<? extends RuntimeException> due, Runnable call) {
        String before = state(line);
        String got = "nothing";
        try {
            call.run();
        } catch (RuntimeException e) {
            got = thrown(e);
        }
        same(what + " throws", got, due.getName());
        same(what + " and the state", state(line), before);
    }

    /** The class of what was thrown, and who threw it if the program's own throw did not. */
    static String thrown(RuntimeException e) {
        StackTraceElement[] trace = e.getStackTrace();
        boolean own = trace.length > 0 && trace[0].getClassName().startsWith("TaktLine");
        return own ? e.getClass().getName() : e + " by the machine or the library";
    }

    static void refusesIndex(String what, TaktLine line, Runnable call) {
        refuses(what, line, IndexOutOfBoundsException.class, call);
    }

    static void refusesArgument(String what, TaktLine line, Runnable call) {
        refuses(what, line, IllegalArgumentException.class, call);
    }

    static void refusesState(String what, TaktLine line, Runnable call) {
        refuses(what, line, IllegalStateException.class, call);
    }

    /** Every answer that the questions give, for all cars, lots and images that there are. */
    static String state(TaktLine line) {
        StringBuilder text = new StringBuilder();
        text.append("takts ").append(line.takts()).append(" scrapped ").append(line.scrapped());
        text.append(" failed ").append(line.failed()).append(" atLarge ").append(line.atLarge());
        text.append(" images ").append(line.images()).append(" line");
        for (int s = 0; s < STATIONS; s++) {
            text.append(' ').append(line.carAt(s));
        }
        for (int c = 0; isCar(line, c); c++) {
            addCar(text, line, c);
        }
        for (int l = 0; isLot(line, l); l++) {
            text.append("\nlot ").append(l).append(' ').append(line.units(l));
        }
        for (int i = 0; i < line.images(); i++) {
            text.append("\nimage ").append(i);
            for (int k = 0; k < KINDS; k++) {
                text.append(' ').append(line.versionIn(i, k));
            }
        }
        return text.toString();
    }

    private static void addCar(StringBuilder text, TaktLine line, int car) {
        text.append("\ncar ").append(car).append(" where ").append(line.whereIs(car));
        text.append(" station ").append(line.stationOf(car)).append(" needs ").append(line.needs(car));
        text.append(" lacks ").append(line.lacks(car)).append(" image ").append(line.imageOf(car));
        text.append(" fit ").append(line.isFit(car)).append(" tested ").append(line.isTested(car));
        text.append(" lots");
        for (int k = 0; k < KINDS; k++) {
            text.append(' ').append(line.lotIn(car, k)).append('/').append(line.lotByPicks(car, k));
        }
    }

    static boolean isCar(TaktLine line, int car) {
        try {
            line.whereIs(car);
            return true;
        } catch (IndexOutOfBoundsException e) {
            return false;
        }
    }

    static boolean isLot(TaktLine line, int lot) {
        try {
            line.units(lot);
            return true;
        } catch (IndexOutOfBoundsException e) {
            return false;
        }
    }

    static void end() {
        System.out.println(checks + " checks, " + wrong + " wrong");
        if (wrong > 0) {
            System.exit(1);
        }
    }
}
