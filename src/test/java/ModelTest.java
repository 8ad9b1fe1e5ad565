/** Long runs of mixed calls, each answer compared with the model's. */
public final class ModelTest {
    private static final int RUNS = 400;
    private static final int CALLS = 512;
    private static final Due due = new Due();
    /** Asking, quitting, cancelling, undoing, looking. */
    private static final int[] CROWD_KINDS = {3, 4, 5, 6, 7, 7, 7, 8, 8, 15, 16, 16, 22};
    private static long seed = 1;

    private interface Call {
        long answer();
    }

    public static void main(String[] args) {
        for (int run = 0; run < RUNS; run++) {
            compare(run);
        }
        due.end();
    }

    /** Numbers that are the same in every run of the tests. */
    private static int below(int bound) {
        seed = seed * 6364136223846793005L + 1442695040888963407L;
        return (int) ((seed >>> 33) % bound);
    }

    private static String outcome(Call call) {
        try {
            return Long.toString(call.answer());
        } catch (RuntimeException e) {
            return "throws." + e.getClass().getSimpleName();
        }
    }

    private static void same(String call, Call got, Call want) {
        String answer = outcome(got);
        String right = outcome(want);
        due.holds(call + " answered " + answer + ", the model " + right, answer.equals(right));
    }

    private static void compare(int run) {
        TestSlots x = new TestSlots();
        Model m = new Model();
        int calm = below(3);
        int first = run % 3 == 0 ? crowd(run + ".crowd ", x, m) : 0;
        for (int i = first; i < CALLS; i++) {
            String call = run + "." + i + " ";
            int kind = below(calm == 0 ? 30 : 24);
            if (first > 0 && below(3) > 0) {
                kind = CROWD_KINDS[below(CROWD_KINDS.length)];
            }
            if (kind < 17) {
                change(call, x, m, kind);
            } else if (kind < 21) {
                i += text(call, x, m);
            } else {
                look(call, x, m, below(7));
            }
            if (i % 4 == 0) {
                same(call + "digest", () -> x.digest(), () -> m.digest());
            }
        }
    }

    /** Many pupils who can have slots of the latest days alone; answers how many calls it took. */
    private static int crowd(String call, TestSlots x, Model m) {
        int examiners = 1 + below(3);
        int wait = 8 + below(2);
        same(call + "set", () -> x.set(0, wait), () -> m.set(0, wait));
        same(call + "set", () -> x.set(1, 0), () -> m.set(1, 0));
        for (int i = 0; i < examiners; i++) {
            same(call + "addExaminer", () -> x.addExaminer(), () -> m.addExaminer());
        }
        for (int i = 0; i < 12; i++) {
            int pupil = i;
            same(call + "addPupil", () -> x.addPupil(), () -> m.addPupil());
            same(call + "ask", () -> x.ask(pupil), () -> m.ask(pupil));
        }
        for (int i = 0; i < 12; i++) {
            int pupil = i;
            same(call + "test", () -> x.test(pupil, false), () -> m.test(pupil, false));
            same(call + "ask", () -> x.ask(pupil), () -> m.ask(pupil));
        }
        same(call + "cancel", () -> x.cancel(0, 9), () -> m.cancel(0, 9));
        return 60;
    }

    private static int nearly(int bound) {
        return below(40) == 0 ? (below(2) == 0 ? -1 : bound + below(3)) : below(Math.max(1, bound));
    }

    private static void change(String call, TestSlots x, Model m, int kind) {
        int pupil = nearly(m.now.pupils.size());
        int examiner = nearly(m.now.examiners);
        int days = below(3) == 0 ? below(3) : below(3) == 0 ? 8 + below(2) : nearly(10);
        switch (kind) {
            case 0:
                same(call + "addExaminer", () -> x.addExaminer(), () -> m.addExaminer());
                break;
            case 1:
            case 2:
                same(call + "addPupil", () -> x.addPupil(), () -> m.addPupil());
                break;
            case 3:
            case 4:
            case 5:
            case 6:
                same(call + "ask " + pupil, () -> x.ask(pupil), () -> m.ask(pupil));
                break;
            case 7:
                same(call + "quit " + pupil, () -> x.quit(pupil), () -> m.quit(pupil));
                break;
            case 8:
            case 9:
                same(call + "cancel " + examiner + " " + days,
                    () -> x.cancel(examiner, days), () -> m.cancel(examiner, days));
                break;
            case 10:
            case 11:
            case 12:
            case 13:
                boolean passes = below(6) == 0;
                int tested = pupilOfToday(m, pupil);
                same(call + "test " + tested + passes, () -> x.test(tested, passes), () -> m.test(tested, passes));
                break;
            case 14:
                same(call + "next", () -> x.next(), () -> m.next());
                break;
            case 15:
                int setting = nearly(4);
                int value = nearly(new int[] {20, 1, 9, 999, 5, 5, 5}[Math.max(0, setting)] + 1);
                same(call + "set " + setting + " " + value,
                    () -> x.set(setting, value), () -> m.set(setting, value));
                break;
            default:
                same(call + "undo", () -> x.undo(), () -> m.undo());
                break;
        }
    }

    /** Mostly a pupil who can be tested, if there is one. */
    private static int pupilOfToday(Model m, int other) {
        for (int i = 0; i < m.now.pupils.size() && other % 4 != 3; i++) {
            if (m.pupil(i, 5) == 0) {
                return i;
            }
        }
        return other;
    }

    private static String order() {
        switch (below(8)) {
            case 0:
            case 1:
                return "ask" + below(12);
            case 2:
                return "quit" + below(12);
            case 3:
                return "pass" + below(12);
            case 4:
                return "fail" + below(12);
            case 5:
                return "ill" + below(4) + "@" + below(10);
            case 6:
                return "next";
            default:
                return "ask" + below(14);
        }
    }

    /** Orders, spoilt now and then; answers how many calls it took. */
    private static int text(String call, TestSlots x, Model m) {
        StringBuilder orders = new StringBuilder();
        int many = 1 + below(below(4) == 0 ? 14 : 5);
        for (int i = 0; i < many; i++) {
            orders.append(i == 0 ? "" : ";").append(order());
        }
        if (below(4) == 0) {
            orders.setCharAt(below(orders.length()), "askquitpflnex;@0123456789~!".charAt(below(27)));
        }
        if (below(6) == 0) {
            orders.setLength(below(orders.length() + 1));
        }
        for (int i = 0; i < orders.length(); i++) {
            int code = below(300) == 0 ? below(200) : orders.charAt(i);
            same(call + "append", () -> x.append(code), () -> m.append(code));
        }
        same(call + "firstError " + m.buffer, () -> x.firstError(), () -> m.firstError());
        same(call + "digest", () -> x.digest(), () -> m.digest());
        same(call + "run " + m.buffer, () -> x.run(), () -> m.run());
        if (below(3) > 0) {
            same(call + "clearBuffer", () -> x.clearBuffer(), () -> m.clearBuffer());
        }
        return orders.length() + 4;
    }

    private static void look(String call, TestSlots x, Model m, int kind) {
        int pupil = nearly(m.now.pupils.size());
        int examiner = nearly(m.now.examiners);
        int days = below(2) == 0 ? 8 + below(2) : nearly(10);
        int what = nearly(kind == 0 ? 11 : kind == 1 ? 9 : kind == 2 ? 15 : 3);
        switch (kind) {
            case 0:
                same(call + "pupil", () -> x.pupil(pupil, what), () -> m.pupil(pupil, what));
                break;
            case 1:
                same(call + "examiner", () -> x.examiner(examiner, what), () -> m.examiner(examiner, what));
                break;
            case 2:
                same(call + "count", () -> x.count(what), () -> m.count(what));
                same(call + "setting", () -> x.setting(what), () -> m.setting(what));
                break;
            case 3:
                same(call + "earliest", () -> x.earliest(pupil, what), () -> m.earliest(pupil, what));
                same(call + "ifTested", () -> x.ifTested(pupil, examiner), () -> m.ifTested(pupil, examiner));
                break;
            case 4:
                same(call + "ifCancelled " + examiner + " " + days + " " + what,
                    () -> x.ifCancelled(examiner, days, what), () -> m.ifCancelled(examiner, days, what));
                break;
            case 5:
                same(call + "couldHave " + days, () -> x.couldHave(days), () -> m.couldHave(days));
                break;
            default:
                same(call + "slot", () -> x.slot(examiner, days, what), () -> m.slot(examiner, days, what));
                break;
        }
    }
}
