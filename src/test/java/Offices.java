/** What the tests share: offices to begin with, short ways to call, and whole states as numbers. */
abstract class Offices {
    static final Class<?> BOUNDS = IndexOutOfBoundsException.class;
    static final Class<?> STATE = IllegalStateException.class;
    static final Class<?> ARGUMENT = IllegalArgumentException.class;
    static final int NONE = TestSlots.NONE;
    static final int CLOSED = -2;
    static final int IDLE = 0;
    static final int WAITS = 1;
    static final int HAS_SLOT = 2;
    static final int PASSED = 3;
    /** How many undoable calls undoableCall knows. */
    static final int UNDOABLE_CALLS = 20;
    static final Due due = new Due();

    static TestSlots office(int examiners, int pupils) {
        TestSlots x = new TestSlots();
        for (int i = 0; i < examiners; i++) {
            x.addExaminer();
        }
        for (int i = 0; i < pupils; i++) {
            x.addPupil();
        }
        return x;
    }

    /** An office in which every pupil has asked once, in the order of their numbers. */
    static TestSlots officeWhereAllAsked(int examiners, int pupils) {
        TestSlots x = office(examiners, pupils);
        for (int i = 0; i < pupils; i++) {
            x.ask(i);
        }
        return x;
    }

    /** One examiner, who can be had again, and a pupil who failed on the day 0 and has to wait. */
    static TestSlots officeWithFailedPupil(int daysToWait) {
        TestSlots x = office(1, 1);
        x.set(0, daysToWait);
        x.set(1, 0);
        x.ask(0);
        x.test(0, false);
        return x;
    }

    /** Eight failed today and can have slots of the last day alone, which has six: 6 and 7 wait. */
    static TestSlots crowdedLastDay() {
        TestSlots x = office(2, 8);
        x.set(0, 9);
        x.set(1, 0);
        x.cancel(1, 9);
        for (int i = 0; i < 8; i++) {
            x.ask(i);
        }
        for (int i = 0; i < 8; i++) {
            x.test(i, false);
        }
        for (int i = 0; i < 8; i++) {
            x.ask(i);
        }
        return x;
    }

    /** Numbers just outside 0 to highest, and such that a program's own sums with them wrap around. */
    static int[] outside(int highest) {
        return new int[] {-1, highest + 1, -2, highest + 2, 100, 256, 65536, 1 << 28, 1 << 30,
            Integer.MAX_VALUE, Integer.MIN_VALUE, Integer.MIN_VALUE + 1};
    }

    static void write(TestSlots x, String orders) {
        x.clearBuffer();
        for (char c : orders.toCharArray()) {
            x.append(c);
        }
    }

    static int runText(TestSlots x, String orders) {
        write(x, orders);
        return x.run();
    }

    static void goOn(TestSlots x, int days) {
        for (int i = 0; i < days; i++) {
            x.next();
        }
    }

    /** Where the pupil's slot is, as days, slot and examiner in one number. */
    static int place(TestSlots x, int pupil) {
        if (x.pupil(pupil, 5) == NONE) {
            return NONE;
        }
        return 100 * x.pupil(pupil, 5) + 10 * x.pupil(pupil, 6) + x.pupil(pupil, 7);
    }

    /** A call of each undoable kind, each fit to come behind those before it. */
    static void undoableCall(TestSlots x, int i) {
        switch (i) {
            case 0: x.addExaminer(); break;
            case 4: x.addExaminer(); break;
            case 5: x.ask(0); break;
            case 6: x.ask(1); break;
            case 7: x.test(0, false); break;
            case 8: x.test(1, true); break;
            case 9: x.ask(0); break;
            case 10: x.ask(2); break;
            case 11: x.cancel(0, 0); break;
            case 12: x.cancel(0, 3); break;
            case 13: x.set(1, 0); break;
            case 14: x.quit(2); break;
            case 15: x.set(3, 999); break;
            case 16: x.ask(2); break;
            case 17: runText(x, "ill1@3;next;ask3;next"); break;
            case 18: x.next(); break;
            case 19: x.set(2, 2); break;
            default: x.addPupil(); break;
        }
    }

    /** The state as the looks tell it, without the saved states and the buffer. */
    static long seen(TestSlots x) {
        long hash = 0;
        for (int what = 0; what <= 13; what++) {
            hash = 31 * hash + x.count(what);
        }
        for (int i = 0; i < 4; i++) {
            hash = 31 * hash + x.setting(i);
        }
        for (int pupil = 0; pupil < x.count(2); pupil++) {
            for (int what = 0; what <= 10; what++) {
                hash = 31 * hash + x.pupil(pupil, what);
            }
        }
        for (int examiner = 0; examiner < x.count(1); examiner++) {
            for (int what = 0; what <= 8; what++) {
                hash = 31 * hash + x.examiner(examiner, what);
            }
            for (int i = 0; i < 40; i++) {
                hash = 31 * hash + x.slot(examiner, i / 4, i % 4);
            }
        }
        return hash;
    }

    /** The digest as the document makes it, from what the other calls answer. */
    static long digestOf(TestSlots x, String buffer) {
        long hash = 2731;
        for (int what = 0; what <= 14; what++) {
            hash = 31 * hash + x.count(what);
        }
        for (int setting = 0; setting < 4; setting++) {
            hash = 31 * hash + x.setting(setting);
        }
        for (int pupil = 0; pupil < x.count(2); pupil++) {
            for (int what = 0; what <= 10; what++) {
                hash = 31 * hash + x.pupil(pupil, what);
            }
            for (int what = 0; what <= 2; what++) {
                hash = 31 * hash + x.earliest(pupil, what);
            }
        }
        for (int examiner = 0; examiner < x.count(1); examiner++) {
            for (int what = 0; what <= 8; what++) {
                hash = 31 * hash + x.examiner(examiner, what);
            }
            for (int i = 0; i < 40; i++) {
                hash = 31 * hash + x.slot(examiner, i / 4, i % 4);
            }
            for (int i = 0; i < 6; i++) {
                hash = 31 * hash + x.ifCancelled(examiner, i / 3, i % 3);
            }
            if (x.count(2) > 0) {
                hash = 31 * hash + x.ifTested(0, examiner);
            }
        }
        hash = 31 * hash + x.couldHave(0);
        hash = 31 * hash + x.couldHave(1);
        hash = 31 * hash + x.couldHave(5);
        hash = 31 * hash + Double.doubleToLongBits(x.passedShare());
        hash = 31 * hash + buffer.length();
        for (char c : buffer.toCharArray()) {
            hash = 31 * hash + c;
        }
        return hash;
    }
}
