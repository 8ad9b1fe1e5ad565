import java.util.ArrayDeque;
import java.util.ArrayList;
import java.util.Arrays;
import java.util.Comparator;
import java.util.Deque;
import java.util.HashMap;
import java.util.List;
import java.util.Map;
import java.util.Set;
import java.util.TreeSet;

/**
 * The document once more, in another way, to compare the program with: days are absolute, slots
 * stand in maps, texts are compared with all orders that there are, and every matching is tried.
 */
final class Model {
    static final int NONE = -1;
    static final int CLOSED = -2;
    private static final Set<String> ORDERS = allOrders();

    static final class Person {
        String is = "idle";
        int failed;
        int from;
        int route = NONE;
        int examiner = NONE;
        int moved;
        long began;
        int fee;
        int taken;
        int back;

        Person copy() {
            Person p = new Person();
            p.is = is;
            p.failed = failed;
            p.from = from;
            p.route = route;
            p.examiner = examiner;
            p.moved = moved;
            p.began = began;
            p.fee = fee;
            p.taken = taken;
            p.back = back;
            return p;
        }
    }

    static final class State {
        int day;
        int examiners;
        long beginnings;
        int stayedAway;
        int[] settings = {3, 1, 2, 50};
        List<Person> pupils = new ArrayList<>();
        /** Slots that are not free, by [day, slot, examiner]. */
        Map<List<Integer>, Integer> taken = new HashMap<>();
        /** One [examiner, route, passed] a test. */
        List<int[]> tests = new ArrayList<>();
        int[] cancelled = new int[4];

        State copy() {
            State s = new State();
            s.day = day;
            s.examiners = examiners;
            s.beginnings = beginnings;
            s.stayedAway = stayedAway;
            s.settings = settings.clone();
            for (Person p : pupils) {
                s.pupils.add(p.copy());
            }
            s.taken.putAll(taken);
            s.tests.addAll(tests);
            s.cancelled = cancelled.clone();
            return s;
        }

        int at(int day, int slot, int examiner) {
            return taken.getOrDefault(List.of(day, slot, examiner), NONE);
        }

        List<Integer> placeOf(int pupil) {
            for (Map.Entry<List<Integer>, Integer> e : taken.entrySet()) {
                if (e.getValue() == pupil && e.getKey().get(0) >= day) {
                    return e.getKey();
                }
            }
            return null;
        }

        List<List<Integer>> canBeHad(int pupil) {
            Person p = pupils.get(pupil);
            List<List<Integer>> had = new ArrayList<>();
            for (int d = Math.max(day, p.from); d < day + 10; d++) {
                for (int s = 0; s < 4; s++) {
                    for (int e = 0; e < examiners; e++) {
                        if (at(d, s, e) == NONE && !(settings[1] == 1 && e == p.examiner)) {
                            had.add(List.of(d, s, e));
                        }
                    }
                }
            }
            return had;
        }

        List<Integer> waiting() {
            List<Integer> all = new ArrayList<>();
            for (int i = 0; i < pupils.size(); i++) {
                if (pupils.get(i).is.equals("waits")) {
                    all.add(i);
                }
            }
            all.sort(Comparator.<Integer>comparingInt(i -> -pupils.get(i).moved)
                .thenComparingLong(i -> pupils.get(i).began));
            return all;
        }

        void giveOut() {
            for (int pupil : waiting()) {
                List<List<Integer>> had = canBeHad(pupil);
                if (!had.isEmpty()) {
                    taken.put(had.get(0), pupil);
                    pupils.get(pupil).is = "slot";
                }
            }
        }

        void wait(int pupil) {
            pupils.get(pupil).is = "waits";
            pupils.get(pupil).began = beginnings++;
        }

        int cancel(int examiner, int days) {
            int moved = 0;
            for (int slot = 0; slot <= 1; slot++) {
                Integer had = taken.put(List.of(day + days, slot, examiner), CLOSED);
                if (had != null && had >= 0) {
                    moved++;
                    pupils.get(had).moved++;
                    wait(had);
                }
            }
            cancelled[examiner]++;
            giveOut();
            return moved;
        }

        int route(int pupil, int examiner) {
            List<Integer> routes = new ArrayList<>(List.of(0, 1, 2, 3));
            routes.remove((Integer) pupils.get(pupil).route);
            routes.sort(Comparator.comparingInt(r -> testsOf(examiner, r)));
            return routes.get(0);
        }

        int testsOf(int examiner, int route) {
            int sum = 0;
            for (int[] t : tests) {
                sum += t[0] == examiner && t[1] == route ? 1 : 0;
            }
            return sum;
        }
    }

    State now = new State();
    Deque<State> saves = new ArrayDeque<>();
    StringBuilder buffer = new StringBuilder();

    private static Set<String> allOrders() {
        Set<String> all = new TreeSet<>();
        for (int pupil = 0; pupil < 12; pupil++) {
            for (String word : List.of("ask", "quit", "pass", "fail")) {
                all.add(word + pupil);
            }
        }
        for (int examiner = 0; examiner < 4; examiner++) {
            for (int days = 0; days < 10; days++) {
                all.add("ill" + examiner + "@" + days);
            }
        }
        all.add("next");
        return all;
    }

    private void save() {
        saves.addLast(now.copy());
        if (saves.size() > 6) {
            saves.removeFirst();
        }
    }

    private void pupilExists(int pupil) {
        if (pupil < 0 || pupil >= now.pupils.size()) {
            throw new IndexOutOfBoundsException();
        }
    }

    private void examinerExists(int examiner) {
        if (examiner < 0 || examiner >= now.examiners) {
            throw new IndexOutOfBoundsException();
        }
    }

    private static void argument(boolean good) {
        if (!good) {
            throw new IllegalArgumentException();
        }
    }

    private static void state(boolean good) {
        if (!good) {
            throw new IllegalStateException();
        }
    }

    private static boolean in(int value, int highest) {
        return 0 <= value && value <= highest;
    }

    int addExaminer() {
        state(now.examiners < 4);
        save();
        int number = now.examiners++;
        now.giveOut();
        return number;
    }

    int addPupil() {
        state(now.pupils.size() < 12);
        save();
        Person p = new Person();
        p.from = now.day;
        now.pupils.add(p);
        return now.pupils.size() - 1;
    }

    int ask(int pupil) {
        pupilExists(pupil);
        state(now.pupils.get(pupil).is.equals("idle"));
        save();
        Person p = now.pupils.get(pupil);
        p.fee = now.settings[3];
        p.taken += p.fee;
        now.wait(pupil);
        now.giveOut();
        List<Integer> place = now.placeOf(pupil);
        return place == null ? NONE : place.get(0) - now.day;
    }

    int quit(int pupil) {
        pupilExists(pupil);
        Person p = now.pupils.get(pupil);
        state(p.is.equals("slot") || p.is.equals("waits"));
        save();
        List<Integer> place = now.placeOf(pupil);
        int back = place != null && place.get(0) - now.day < now.settings[2] ? 0 : p.fee;
        now.taken.remove(place);
        p.back += back;
        p.is = "idle";
        now.giveOut();
        return back;
    }

    int cancel(int examiner, int days) {
        examinerExists(examiner);
        argument(in(days, 9));
        save();
        return now.cancel(examiner, days);
    }

    int test(int pupil, boolean passes) {
        pupilExists(pupil);
        List<Integer> place = now.placeOf(pupil);
        state(place != null && place.get(0) == now.day);
        save();
        int examiner = place.get(2);
        int route = now.route(pupil, examiner);
        now.tests.add(new int[] {examiner, route, passes ? 1 : 0});
        now.taken.put(place, CLOSED);
        Person p = now.pupils.get(pupil);
        p.route = route;
        p.examiner = examiner;
        p.is = passes ? "passed" : "idle";
        if (!passes) {
            p.failed++;
            p.from = now.day + Math.min(60, now.settings[0] * p.failed);
        }
        return route;
    }

    int next() {
        state(now.day < 9999);
        save();
        int away = 0;
        for (int i = 0; i < now.pupils.size(); i++) {
            List<Integer> place = now.placeOf(i);
            if (place != null && place.get(0) == now.day) {
                away++;
                now.pupils.get(i).is = "idle";
            }
        }
        now.stayedAway += away;
        now.day++;
        now.taken.keySet().removeIf(place -> place.get(0) < now.day);
        now.giveOut();
        return away;
    }

    int set(int setting, int value) {
        if (!in(setting, 3)) {
            throw new IndexOutOfBoundsException();
        }
        argument(in(value, new int[] {20, 1, 9, 999}[setting]));
        save();
        int before = now.settings[setting];
        now.settings[setting] = value;
        return before;
    }

    int append(int code) {
        argument(code >= 33 && code <= 126);
        state(buffer.length() < 60);
        buffer.append((char) code);
        return buffer.length();
    }

    int clearBuffer() {
        int length = buffer.length();
        buffer.setLength(0);
        return length;
    }

    private static boolean begins(String text) {
        String[] parts = text.split(";", -1);
        for (int i = 0; i + 1 < parts.length; i++) {
            if (!ORDERS.contains(parts[i])) {
                return false;
            }
        }
        for (String order : ORDERS) {
            if (order.startsWith(parts[parts.length - 1])) {
                return true;
            }
        }
        return false;
    }

    int firstError() {
        for (int i = 0; i < buffer.length(); i++) {
            if (!begins(buffer.substring(0, i + 1))) {
                return i;
            }
        }
        return buffer.length();
    }

    int run() {
        String[] parts = buffer.toString().split(";", -1);
        argument(ORDERS.containsAll(Arrays.asList(parts)));
        save();
        Deque<State> kept = saves;
        int done = 0;
        try {
            for (String order : parts) {
                saves = new ArrayDeque<>();
                carryOut(order);
                done++;
            }
        } catch (IllegalStateException | IndexOutOfBoundsException e) {
            // the orders behind it are not carried out
        }
        saves = kept;
        buffer.setLength(0);
        return done;
    }

    private void carryOut(String order) {
        if (order.equals("next")) {
            next();
        } else if (order.startsWith("ask")) {
            ask(Integer.parseInt(order.substring(3)));
        } else if (order.startsWith("quit")) {
            quit(Integer.parseInt(order.substring(4)));
        } else if (order.startsWith("ill")) {
            cancel(order.charAt(3) - '0', order.charAt(5) - '0');
        } else {
            test(Integer.parseInt(order.substring(4)), order.startsWith("pass"));
        }
    }

    int undo() {
        state(!saves.isEmpty());
        now = saves.removeLast();
        return saves.size();
    }

    int pupil(int pupil, int what) {
        pupilExists(pupil);
        argument(in(what, 10));
        Person p = now.pupils.get(pupil);
        List<Integer> place = now.placeOf(pupil);
        int[] all = {List.of("idle", "waits", "slot", "passed").indexOf(p.is), p.failed, p.from, p.route, p.examiner,
            place == null ? NONE : place.get(0) - now.day, place == null ? NONE : place.get(1),
            place == null ? NONE : place.get(2), p.moved, now.waiting().indexOf(pupil), p.taken - p.back};
        return all[what];
    }

    int examiner(int examiner, int what) {
        examinerExists(examiner);
        argument(in(what, 8));
        int[] all = new int[9];
        for (int[] t : now.tests) {
            if (t[0] == examiner) {
                all[0]++;
                all[1] += t[2];
                all[5 + t[1]]++;
            }
        }
        for (int i = 0; i < 40; i++) {
            int at = now.at(now.day + i / 4, i % 4, examiner);
            all[2] += at == NONE ? 1 : 0;
            all[3] += at == CLOSED ? 1 : 0;
        }
        all[4] = now.cancelled[examiner];
        return all[what];
    }

    int slot(int examiner, int days, int slot) {
        examinerExists(examiner);
        argument(in(days, 9) && in(slot, 3));
        return now.at(now.day + days, slot, examiner);
    }

    int count(int what) {
        argument(in(what, 14));
        int[] all = new int[15];
        all[0] = now.day;
        all[1] = now.examiners;
        all[2] = now.pupils.size();
        for (int i = 0; i < now.pupils.size(); i++) {
            all[3 + pupil(i, 0)]++;
            all[9] += pupil(i, 8);
            all[11] += pupil(i, 10);
            all[13] += Math.max(0, pupil(i, 5));
        }
        all[7] = now.tests.size();
        for (int[] t : now.tests) {
            all[8] += t[2];
        }
        all[10] = now.stayedAway;
        for (int e = 0; e < now.examiners; e++) {
            all[12] += examiner(e, 2);
        }
        all[14] = saves.size();
        return all[what];
    }

    int setting(int setting) {
        if (!in(setting, 3)) {
            throw new IndexOutOfBoundsException();
        }
        return now.settings[setting];
    }

    int earliest(int pupil, int what) {
        pupilExists(pupil);
        argument(in(what, 2));
        List<List<Integer>> had = now.canBeHad(pupil);
        if (had.isEmpty()) {
            return NONE;
        }
        return what == 0 ? had.get(0).get(0) - now.day : had.get(0).get(what);
    }

    int ifCancelled(int examiner, int days, int what) {
        examinerExists(examiner);
        argument(in(days, 9) && in(what, 2));
        State then = now.copy();
        int[] all = {then.cancel(examiner, days), 0, 1000};
        for (int i = 0; i < then.pupils.size(); i++) {
            if (then.pupils.get(i).moved > now.pupils.get(i).moved) {
                if (then.pupils.get(i).is.equals("waits")) {
                    all[1]++;
                } else {
                    all[2] += then.placeOf(i).get(0) - now.placeOf(i).get(0);
                }
            }
        }
        return all[what];
    }

    int ifTested(int pupil, int examiner) {
        pupilExists(pupil);
        examinerExists(examiner);
        return now.route(pupil, examiner);
    }

    int couldHave(int days) {
        argument(in(days, 9));
        int[] free = new int[4];
        for (int e = 0; e < now.examiners; e++) {
            for (int s = 0; s < 4; s++) {
                free[e] += now.at(now.day + days, s, e) == NONE ? 1 : 0;
            }
        }
        return mostFrom(0, days, free, new HashMap<>());
    }

    private int mostFrom(int pupil, int days, int[] free, Map<String, Integer> known) {
        if (pupil == now.pupils.size()) {
            return 0;
        }
        String key = pupil + Arrays.toString(free);
        if (known.containsKey(key)) {
            return known.get(key);
        }
        Person p = now.pupils.get(pupil);
        int best = mostFrom(pupil + 1, days, free, known);
        if ((p.is.equals("idle") || p.is.equals("waits")) && p.from <= now.day + days) {
            for (int e = 0; e < 4; e++) {
                if (free[e] > 0 && (now.settings[1] == 0 || p.examiner != e)) {
                    free[e]--;
                    best = Math.max(best, 1 + mostFrom(pupil + 1, days, free, known));
                    free[e]++;
                }
            }
        }
        known.put(key, best);
        return best;
    }

    double passedShare() {
        return count(7) == 0 ? 1.0 : (double) count(8) / count(7);
    }

    long digest() {
        List<Long> all = new ArrayList<>();
        for (int i = 0; i <= 14; i++) {
            all.add((long) count(i));
        }
        for (int i = 0; i < 4; i++) {
            all.add((long) setting(i));
        }
        for (int p = 0; p < now.pupils.size(); p++) {
            for (int i = 0; i <= 10; i++) {
                all.add((long) pupil(p, i));
            }
            for (int i = 0; i <= 2; i++) {
                all.add((long) earliest(p, i));
            }
        }
        for (int e = 0; e < now.examiners; e++) {
            for (int i = 0; i <= 8; i++) {
                all.add((long) examiner(e, i));
            }
            for (int i = 0; i < 40; i++) {
                all.add((long) slot(e, i / 4, i % 4));
            }
            for (int i = 0; i < 6; i++) {
                all.add((long) ifCancelled(e, i / 3, i % 3));
            }
            if (!now.pupils.isEmpty()) {
                all.add((long) ifTested(0, e));
            }
        }
        for (int days : new int[] {0, 1, 5}) {
            all.add((long) couldHave(days));
        }
        all.add(Double.doubleToLongBits(passedShare()));
        all.add((long) buffer.length());
        for (int i = 0; i < buffer.length(); i++) {
            all.add((long) buffer.charAt(i));
        }
        long hash = 2731;
        for (long v : all) {
            hash = 31 * hash + v;
        }
        return hash;
    }
}
