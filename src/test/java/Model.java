import java.util.ArrayDeque;
import java.util.ArrayList;
import java.util.Arrays;
import java.util.HashMap;
import java.util.HashSet;
import java.util.Iterator;
import java.util.List;
import java.util.Map;
import java.util.Set;
import java.util.TreeMap;

/**
 * The document once more, held in another way: texts for what is in cars, sets of signs, one place for each car.
 * Only calls that throw nothing are made on it.
 */
final class Model {
    final int[] station = new int[10];
    final int[] with = new int[10];
    final int[] without = new int[10];
    final boolean[] software = new boolean[10];
    final List<int[]> lots = new ArrayList<int[]>();
    final Set<Integer> recalled = new HashSet<Integer>();
    final List<Integer> options = new ArrayList<Integer>();
    final List<TreeMap<Integer, Integer>> parts = new ArrayList<TreeMap<Integer, Integer>>();
    final Map<Integer, Integer> stationOfCar = new HashMap<Integer, Integer>();
    final ArrayDeque<Integer> ordered = new ArrayDeque<Integer>();
    final List<int[]> lane = new ArrayList<int[]>();
    final Set<Integer> left = new HashSet<Integer>();
    final Set<Integer> tested = new HashSet<Integer>();
    final Set<Integer> latestFailed = new HashSet<Integer>();
    final Set<Integer> faults = new HashSet<Integer>();
    final Map<Integer, Integer> held = new HashMap<Integer, Integer>();
    final List<TreeMap<Integer, Integer>> images = new ArrayList<TreeMap<Integer, Integer>>();
    final Set<List<Integer>> signs = new HashSet<List<Integer>>();
    int takts = 0;
    int scrapped = 0;
    int failed = 0;

    Model() {
        Arrays.fill(with, 255);
    }

    boolean needs(int car, int kind) {
        for (int o = 0; o < 8; o++) {
            boolean has = (options.get(car) >> o) % 2 == 1;
            if ((with[kind] >> o) % 2 == 1 && !has || (without[kind] >> o) % 2 == 1 && has) {
                return false;
            }
        }
        return true;
    }

    boolean lacks(int car, int kind) {
        return needs(car, kind)
                && (!parts.get(car).containsKey(kind) || recalled.contains(parts.get(car).get(kind)));
    }

    boolean lacksAny(int car) {
        for (int k = 0; k < 10; k++) {
            if (lacks(car, k)) {
                return true;
            }
        }
        return false;
    }

    TreeMap<Integer, Integer> contents(int car) {
        TreeMap<Integer, Integer> found = new TreeMap<Integer, Integer>();
        for (Map.Entry<Integer, Integer> part : parts.get(car).entrySet()) {
            if (software[part.getKey()]) {
                found.put(part.getKey(), lots.get(part.getValue())[1]);
            }
        }
        return found;
    }

    boolean fit(int car) {
        for (int k = 0; k < 10; k++) {
            if (software[k] && lacks(car, k)) {
                return false;
            }
        }
        Integer image = held.get(car);
        return image != null && signs.contains(Arrays.asList(image, car)) && images.get(image).equals(contents(car));
    }

    Integer carAt(int place) {
        for (Map.Entry<Integer, Integer> entry : stationOfCar.entrySet()) {
            if (entry.getValue() == place) {
                return entry.getKey();
            }
        }
        return null;
    }

    int recall(int lot) {
        recalled.add(lot);
        int count = 0;
        for (TreeMap<Integer, Integer> inCar : parts) {
            count += inCar.containsValue(lot) ? 1 : 0;
        }
        return count;
    }

    int order(int set) {
        options.add(set);
        parts.add(new TreeMap<Integer, Integer>());
        ordered.add(options.size() - 1);
        return options.size() - 1;
    }

    int build(int car) {
        TreeMap<Integer, Integer> now = contents(car);
        if (!images.contains(now)) {
            images.add(now);
        }
        return images.indexOf(now);
    }

    boolean buildsNew(int car) {
        return !images.contains(contents(car));
    }

    int flash(int car, int image) {
        tested.remove(car);
        latestFailed.remove(car);
        Integer before = held.put(car, image);
        return before == null ? -1 : before;
    }

    int takt(int count) {
        int leaving = 0;
        for (int t = 0; t < count; t++) {
            goBack();
            leaving += leave();
            goOn();
            comeIn();
            work();
            takts++;
        }
        return leaving;
    }

    private void goBack() {
        for (int s = 7; s >= 0; s--) {
            Integer car = carAt(s);
            if (car == null) {
                continue;
            }
            int target = -1;
            for (int k = 0; k < 10; k++) {
                if (lacks(car, k) && station[k] < s && (target < 0 || station[k] < target)) {
                    target = station[k];
                }
            }
            if (target < 0 && (s == 6 && latestFailed.contains(car) || s == 7 && !tested.contains(car))) {
                target = 5;
                latestFailed.remove(car);
            }
            if (target >= 0) {
                stationOfCar.remove(car);
                lane.add(new int[] {car, target});
            }
        }
    }

    private int leave() {
        Integer car = carAt(7);
        if (car != null && !lacksAny(car) && tested.contains(car) && fit(car)) {
            stationOfCar.remove(car);
            left.add(car);
            return 1;
        }
        return 0;
    }

    private void goOn() {
        for (int s = 6; s >= 0; s--) {
            Integer car = carAt(s);
            if (car != null && carAt(s + 1) == null && done(car, s)) {
                stationOfCar.put(car, s + 1);
            }
        }
    }

    private boolean done(int car, int s) {
        if (s == 5) {
            return held.containsKey(car);
        }
        if (s == 6) {
            return tested.contains(car);
        }
        for (int k = 0; k < 10; k++) {
            if (station[k] == s && lacks(car, k)) {
                return false;
            }
        }
        return true;
    }

    private void comeIn() {
        for (Iterator<int[]> it = lane.iterator(); it.hasNext();) {
            int[] entry = it.next();
            if (carAt(entry[1]) == null) {
                stationOfCar.put(entry[0], entry[1]);
                it.remove();
            }
        }
        if (carAt(0) == null && !ordered.isEmpty()) {
            stationOfCar.put(ordered.remove(), 0);
        }
    }

    private void work() {
        for (int s = 0; s < 8; s++) {
            Integer car = carAt(s);
            if (car == null) {
                continue;
            }
            for (int k = 0; k < 10 && s < 5; k++) {
                if (station[k] == s && lacks(car, k)) {
                    fit(car, k);
                }
            }
            if (s == 6 && !tested.contains(car)) {
                boolean pass = fit(car) && !faults.contains(car);
                failed += pass ? 0 : 1;
                if (pass) {
                    tested.add(car);
                    latestFailed.remove(car);
                } else {
                    latestFailed.add(car);
                }
                faults.remove(car);
            }
        }
    }

    private void fit(int car, int kind) {
        if (parts.get(car).remove(kind) != null) {
            scrapped++;
            tested.remove(car);
        }
        for (int l = 0; l < lots.size(); l++) {
            int[] lot = lots.get(l);
            if (lot[0] == kind && lot[2] > 0 && !recalled.contains(l)) {
                lot[2]--;
                parts.get(car).put(kind, l);
                tested.remove(car);
                return;
            }
        }
    }

    int atLarge() {
        int count = 0;
        for (int car : left) {
            boolean has = false;
            for (int lot : parts.get(car).values()) {
                has |= recalled.contains(lot);
            }
            count += has ? 1 : 0;
        }
        return count;
    }

    int whereIs(int car) {
        return left.contains(car) ? 3 : ordered.contains(car) ? 0 : stationOfCar.containsKey(car) ? 1 : 2;
    }

    int stationOf(int car) {
        for (int[] entry : lane) {
            if (entry[0] == car) {
                return entry[1];
            }
        }
        return stationOfCar.getOrDefault(car, -1);
    }

    /** The same text as Check.state gives of a line. */
    String state() {
        StringBuilder text = new StringBuilder();
        text.append("takts ").append(takts).append(" scrapped ").append(scrapped);
        text.append(" failed ").append(failed).append(" atLarge ").append(atLarge());
        text.append(" images ").append(images.size()).append(" line");
        for (int s = 0; s < 8; s++) {
            Integer car = carAt(s);
            text.append(' ').append(car == null ? -1 : car);
        }
        for (int c = 0; c < options.size(); c++) {
            addCar(text, c);
        }
        for (int l = 0; l < lots.size(); l++) {
            text.append("\nlot ").append(l).append(' ').append(lots.get(l)[2]);
        }
        for (int i = 0; i < images.size(); i++) {
            text.append("\nimage ").append(i);
            for (int k = 0; k < 10; k++) {
                text.append(' ').append(images.get(i).getOrDefault(k, 0));
            }
        }
        return text.toString();
    }

    private void addCar(StringBuilder text, int car) {
        int needed = 0;
        int lacking = 0;
        for (int k = 0; k < 10; k++) {
            needed += needs(car, k) ? 1 << k : 0;
            lacking += lacks(car, k) ? 1 << k : 0;
        }
        text.append("\ncar ").append(car).append(" where ").append(whereIs(car));
        text.append(" station ").append(stationOf(car)).append(" needs ").append(needed);
        text.append(" lacks ").append(lacking).append(" image ").append(held.getOrDefault(car, -1));
        text.append(" fit ").append(fit(car)).append(" tested ").append(tested.contains(car));
        text.append(" lots");
        for (int k = 0; k < 10; k++) {
            int lot = parts.get(car).getOrDefault(k, -1);
            text.append(' ').append(lot).append('/').append(lot);
        }
    }
}
