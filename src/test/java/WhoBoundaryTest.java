/** The edges that the document names for a new object, days, examiners, routes and pupils. */
public final class WhoBoundaryTest extends Offices {
    public static void main(String[] args) {
        Sentences.lookAt(WhoBoundaryTest.class, due);
    }

    // ---- a new object

    @Says("Creates an office without examiners and pupils on the day 0, with an empty buffer.")
    static void aNewObjectIsEmpty() {
        TestSlots x = new TestSlots();
        for (int what = 0; what <= 14; what++) {
            due.is("count " + what, x.count(what), 0);
        }
        due.is("the buffer's length", x.clearBuffer(), 0);
        due.refuses(x, "the examiner 0", BOUNDS, () -> x.examiner(0, 0));
        due.refuses(x, "the pupil 0", BOUNDS, () -> x.pupil(0, 0));
    }

    @Says("Creates an office without examiners and pupils: also when another one is in use")
    static void objectsShareNothing() {
        TestSlots used = officeWhereAllAsked(4, 12);
        write(used, "next");
        used.set(3, 1);
        TestSlots x = new TestSlots();
        due.is("digest", x.digest(), digestOf(x, ""));
        due.is("pupils", x.count(2), 0);
        due.is("saved states", x.count(14), 0);
        due.is("the fee", x.setting(3), 50);
        due.is("the buffer's length", x.clearBuffer(), 0);
        due.is("the other one's buffer", used.clearBuffer(), 4);
    }

    @Says("NONE = -1")
    static void noneIsMinusOne() {
        due.is("NONE", TestSlots.NONE, -1);
    }

    @Says("An object is used for at most 512 calls after it has been made")
    static void fiveHundredAndTwelveCalls() {
        TestSlots x = new TestSlots();
        due.is("the first examiner", x.addExaminer(), 0);
        due.is("the first pupil", x.addPupil(), 0);
        for (int i = 3; i <= 510; i += 2) {
            due.is("call " + i, x.ask(0), 0);
            due.is("call " + (i + 1), x.next(), 1);
        }
        due.is("call 511", x.count(0), 254);
        due.is("call 512", x.count(11), 254 * 50);
    }

    // ---- days, examiners, routes

    @Says("There is a day, today, at first 0.")
    static void theFirstDayIs0() {
        TestSlots x = new TestSlots();
        due.is("the day", x.count(0), 0);
        x.next();
        due.is("the next day", x.count(0), 1);
    }

    @Says("There are at most 4 examiners, numbered from 0 in the order in which they came")
    static void fourExaminersAtMost() {
        TestSlots x = new TestSlots();
        for (int i = 0; i < 4; i++) {
            due.is("number", x.addExaminer(), i);
            due.is("examiners", x.count(1), i + 1);
        }
        due.refuses(x, "a fifth one", STATE, () -> x.addExaminer());
        due.refuses(x, "a fifth one again", STATE, () -> x.addExaminer());
        due.is("still", x.count(1), 4);
        x.undo();
        due.is("three are fewer than four", x.addExaminer(), 3);
    }

    @Says("each day each of them has 4 slots, 0 to 3")
    static void fourSlotsADay() {
        TestSlots x = officeWhereAllAsked(1, 12);
        for (int pupil = 0; pupil < 12; pupil++) {
            due.is("the slot of pupil " + pupil, place(x, pupil), 100 * (pupil / 4) + 10 * (pupil % 4));
        }
    }

    @Says("the slots 0 and 1 are the morning")
    static void twoSlotsInTheMorning() {
        TestSlots x = office(1, 0);
        x.cancel(0, 4);
        due.is("the slot 0", x.slot(0, 4, 0), CLOSED);
        due.is("the slot 1", x.slot(0, 4, 1), CLOSED);
        due.is("the slot 2", x.slot(0, 4, 2), NONE);
        due.is("the slot 3", x.slot(0, 4, 3), NONE);
    }

    @Says("The diary has 10 days, today and those behind it.")
    static void tenDaysInTheDiary() {
        TestSlots x = office(1, 0);
        due.is("free slots", x.count(12), 40);
        due.is("today", x.slot(0, 0, 0), NONE);
        due.is("the last day", x.slot(0, 9, 3), NONE);
        due.refuses(x, "yesterday", ARGUMENT, () -> x.slot(0, -1, 0));
        due.refuses(x, "the day behind the last one", ARGUMENT, () -> x.slot(0, 10, 0));
        due.is("from the last day on", officeWithFailedPupil(9).earliest(0, 0), 9);
        due.is("from the day behind it on", officeWithFailedPupil(10).earliest(0, 0), NONE);
    }

    @Says("There are 4 routes, numbered from 0.")
    static void fourRoutes() {
        TestSlots y = officeWhereAllAsked(1, 8);
        for (int i = 0; i < 4; i++) {
            due.is("route", y.test(i, true), i);
        }
        y.next();
        due.is("behind the last route the first one", y.test(4, true), 0);
        for (int route = 0; route < 4; route++) {
            due.is("tests on the route " + route, y.examiner(0, 5 + route), route == 0 ? 2 : 1);
        }
        due.refuses(y, "tests on the route 4", ARGUMENT, () -> y.examiner(0, 9));
    }

    // ---- pupils

    @Says("There are at most 12 pupils, numbered from 0 in the order in which they came.")
    static void twelvePupilsAtMost() {
        TestSlots x = new TestSlots();
        for (int i = 0; i < 12; i++) {
            due.is("number", x.addPupil(), i);
            due.is("pupils", x.count(2), i + 1);
        }
        due.refuses(x, "a thirteenth one", STATE, () -> x.addPupil());
        due.refuses(x, "a thirteenth one again", STATE, () -> x.addPupil());
        due.is("still", x.count(2), 12);
        x.undo();
        due.is("eleven are fewer than twelve", x.addPupil(), 11);
    }

    @Says("A pupil is idle, waits, has a slot (one at most), or has passed.")
    static void onePupilIsOneThing() {
        TestSlots x = office(0, 1);
        due.is("idle", x.pupil(0, 0), IDLE);
        x.ask(0);
        due.is("waits", x.pupil(0, 0), WAITS);
        x.addExaminer();
        due.is("has a slot", x.pupil(0, 0), HAS_SLOT);
        due.refuses(x, "a second slot", STATE, () -> x.ask(0));
        x.addExaminer();
        due.is("one slot at most", x.count(12), 80 - 1);
        x.test(0, true);
        due.is("has passed", x.pupil(0, 0), PASSED);
        due.is("all of one pupil", x.count(3) + x.count(4) + x.count(5) + x.count(6), 1);
    }

    @Says("A pupil has failed so often, at first 0")
    static void notFailedAtFirst() {
        due.is("failed tests", office(1, 1).pupil(0, 1), 0);
    }

    @Says("may be tested from a day on, at first from the day on which the pupil came")
    static void testableFromTheDayOfComing() {
        TestSlots x = office(1, 1);
        x.next();
        x.addPupil();
        goOn(x, 7);
        x.addPupil();
        due.is("who came on the day 0", x.pupil(0, 2), 0);
        due.is("who came on the day 1", x.pupil(1, 2), 1);
        due.is("who came on the day 8", x.pupil(2, 2), 8);
        due.is("on the day of coming", x.ask(2), 0);
    }

    @Says("has the route and the examiner of the latest test, at first none.")
    static void noTestAtFirst() {
        TestSlots x = office(2, 1);
        due.is("the route", x.pupil(0, 3), NONE);
        due.is("the examiner", x.pupil(0, 4), NONE);
        due.is("every route can be", x.ifTested(0, 0), 0);
        due.is("every examiner can be", x.earliest(0, 2), 0);
    }

    // ---- adding

    @Says("Adds an examiner, all of whose slots in the diary are free")
    static void aNewExaminersSlotsAreFree() {
        TestSlots x = office(1, 2);
        x.ask(0);
        x.ask(1);
        for (int days = 0; days < 10; days++) {
            x.cancel(0, days);
        }
        goOn(x, 3);
        due.is("number", x.addExaminer(), 1);
        due.is("free slots", x.examiner(1, 2), 40);
        due.is("closed slots", x.examiner(1, 3), 0);
        for (int i = 0; i < 40; i++) {
            due.is("slot " + i, x.slot(1, i / 4, i % 4), NONE);
        }
        for (int what = 0; what <= 8; what++) {
            due.is("property " + what, x.examiner(1, what), what == 2 ? 40 : 0);
        }
    }

    @Says("Adds an examiner: one whose coming was undone leaves nothing behind")
    static void anExaminerIsNewAgain() {
        TestSlots x = office(0, 1);
        x.addExaminer();
        x.ask(0);
        x.test(0, true);
        x.cancel(0, 5);
        for (int i = 0; i < 4; i++) {
            x.undo();
        }
        due.is("number", x.addExaminer(), 0);
        for (int what = 0; what <= 8; what++) {
            due.is("property " + what, x.examiner(0, what), what == 2 ? 40 : 0);
        }
    }

    @Says("then slots are given out (behind a new examiner): nobody waits")
    static void aNewExaminerWhenNobodyWaits() {
        TestSlots x = office(0, 12);
        x.addExaminer();
        due.is("idle pupils get none", x.count(3), 12);
        due.is("free slots", x.count(12), 40);
    }

    @Says("then slots are given out (behind a new examiner): all wait")
    static void aNewExaminerWhenAllWait() {
        TestSlots x = officeWhereAllAsked(0, 12);
        due.is("wait", x.count(4), 12);
        x.addExaminer();
        due.is("have slots", x.count(5), 12);
        for (int pupil = 0; pupil < 12; pupil++) {
            due.is("in the order of asking", place(x, pupil), 100 * (pupil / 4) + 10 * (pupil % 4));
        }
    }

    @Says("Adds a pupil, who is idle.")
    static void aNewPupilIsIdle() {
        TestSlots x = office(1, 0);
        due.is("number", x.addPupil(), 0);
        due.is("idle", x.pupil(0, 0), IDLE);
        due.is("free slots", x.count(12), 40);
        x.next();
        due.is("idle also behind slots were given out", x.pupil(0, 0), IDLE);
    }

    @Says("Adds a pupil: one whose coming was undone leaves nothing behind")
    static void aPupilIsNewAgain() {
        TestSlots x = office(1, 0);
        x.addPupil();
        x.ask(0);
        x.cancel(0, 0);
        x.test(0, false);
        for (int i = 0; i < 4; i++) {
            x.undo();
        }
        x.next();
        due.is("number", x.addPupil(), 0);
        int[] due0 = {IDLE, 0, 1, NONE, NONE, NONE, NONE, NONE, 0, NONE, 0};
        for (int what = 0; what <= 10; what++) {
            due.is("property " + what, x.pupil(0, what), due0[what]);
        }
    }
}
