/** The edges that the document names for the looks: pupil, examiner, slot, count, setting. */
public final class LooksBoundaryTest extends Offices {
    public static void main(String[] args) {
        Sentences.lookAt(LooksBoundaryTest.class, due);
    }

    private static void pupilIs(TestSlots x, int pupil, int... properties) {
        for (int what = 0; what <= 10; what++) {
            due.is("pupil(" + pupil + ", " + what + ")", x.pupil(pupil, what), properties[what]);
        }
    }

    // ---- pupil

    @Says("0: 0 if idle, 1 if waiting, 2 with a slot, 3 if passed")
    static void whatAPupilIs() {
        TestSlots x = office(0, 1);
        due.is("idle", x.pupil(0, 0), 0);
        x.ask(0);
        due.is("waiting", x.pupil(0, 0), 1);
        x.addExaminer();
        due.is("with a slot", x.pupil(0, 0), 2);
        x.test(0, true);
        due.is("passed", x.pupil(0, 0), 3);
    }

    @Says("pupil: all properties of an idle pupil without a test")
    static void aNewPupilsProperties() {
        pupilIs(office(1, 1), 0, 0, 0, 0, NONE, NONE, NONE, NONE, NONE, 0, NONE, 0);
    }

    @Says("1: failed tests; 2: the day from which on the pupil may be tested")
    static void failedTestsAndTheDay() {
        TestSlots x = officeWithFailedPupil(20);
        due.is("failed tests", x.pupil(0, 1), 1);
        due.is("the day, also behind the diary", x.pupil(0, 2), 20);
        goOn(x, 25);
        due.is("the day, also if it went by", x.pupil(0, 2), 20);
    }

    @Says("3: the route of the latest test, 4: its examiner, NONE for both without one")
    static void theLatestTest() {
        TestSlots x = officeWhereAllAsked(4, 4);
        due.is("without a test", x.pupil(3, 3), NONE);
        due.is("without a test", x.pupil(3, 4), NONE);
        x.test(3, true);
        x.test(2, false);
        due.is("passed: route", x.pupil(3, 3), 0);
        due.is("passed: examiner", x.pupil(3, 4), 3);
        due.is("failed: route", x.pupil(2, 3), 0);
        due.is("failed: examiner", x.pupil(2, 4), 2);
        x.set(0, 0);
        goOn(x, 3);
        x.ask(2);
        x.test(2, false);
        due.is("the latest of two: route", x.pupil(2, 3), 1);
        due.is("the latest of two: examiner", x.pupil(2, 4), 0);
    }

    @Says("5: in how many days the slot is, 6: its number, 7: its examiner, NONE for all of these without a slot")
    static void theSlotOfAPupil() {
        TestSlots x = office(3, 12);
        for (int i = 0; i < 11; i++) {
            x.ask(i);
        }
        pupilIs(x, 10, 2, 0, 0, NONE, NONE, 0, 3, 1, 0, NONE, 50);
        pupilIs(x, 11, 0, 0, 0, NONE, NONE, NONE, NONE, NONE, 0, NONE, 0);
        TestSlots y = officeWithFailedPupil(9);
        y.ask(0);
        pupilIs(y, 0, 2, 1, 9, 0, 0, 9, 0, 0, 0, NONE, 100);
        TestSlots z = officeWhereAllAsked(0, 1);
        pupilIs(z, 0, 1, 0, 0, NONE, NONE, NONE, NONE, NONE, 0, 0, 50);
        TestSlots w = officeWhereAllAsked(1, 1);
        w.test(0, true);
        pupilIs(w, 0, 3, 0, 0, 0, 0, NONE, NONE, NONE, 0, NONE, 50);
    }

    @Says("8: how often the pupil was moved so far")
    static void howOftenMoved() {
        TestSlots x = officeWhereAllAsked(1, 1);
        due.is("not yet", x.pupil(0, 8), 0);
        for (int days = 0; days <= 9; days++) {
            x.cancel(0, days);
        }
        due.is("once, into the afternoon", x.pupil(0, 8), 1);
        x.test(0, false);
        due.is("stays behind a test", x.pupil(0, 8), 1);
    }

    @Says("9: the place in the order of waiting pupils, from 0, NONE if not waiting")
    static void thePlaceInTheOrder() {
        TestSlots x = office(0, 12);
        for (int i = 0; i < 11; i++) {
            x.ask(10 - i);
        }
        for (int i = 0; i < 11; i++) {
            due.is("pupil " + (10 - i), x.pupil(10 - i, 9), i);
        }
        due.is("idle", x.pupil(11, 9), NONE);
        x.ask(11);
        due.is("the last of twelve", x.pupil(11, 9), 11);
        x.addExaminer();
        due.is("with a slot", x.pupil(0, 9), NONE);
        x.test(10, true);
        due.is("passed", x.pupil(10, 9), NONE);
    }

    @Says("10: what the pupil paid so far, less what was paid back")
    static void whatAPupilPaid() {
        TestSlots x = officeWhereAllAsked(0, 1);
        due.is("paid", x.pupil(0, 10), 50);
        x.quit(0);
        due.is("paid back", x.pupil(0, 10), 0);
        x.set(3, 999);
        x.ask(0);
        x.addExaminer();
        x.quit(0);
        due.is("lost", x.pupil(0, 10), 999);
        x.ask(0);
        due.is("paid twice", x.pupil(0, 10), 2 * 999);
    }

    @Says("pupil: Throws IndexOutOfBoundsException if there is no such pupil")
    static void noSuchPupil() {
        TestSlots none = office(4, 0);
        due.refuses(none, "no pupils", BOUNDS, () -> none.pupil(0, 0));
        TestSlots one = office(4, 1);
        due.refuses(one, "one pupil", BOUNDS, () -> one.pupil(1, 0));
        TestSlots x = office(4, 12);
        for (int pupil : outside(11)) {
            due.refuses(x, "pupil " + pupil, BOUNDS, () -> x.pupil(pupil, 0));
        }
    }

    @Says("pupil: Throws IllegalArgumentException if what is not 0 to 10")
    static void noSuchPropertyOfAPupil() {
        TestSlots x = office(4, 12);
        for (int what : outside(10)) {
            due.refuses(x, "what " + what, ARGUMENT, () -> x.pupil(11, what));
        }
    }

    @Says("pupil: If several exceptions apply, the one that is named first in the throws clause is thrown.")
    static void pupilWithBothWrong() {
        TestSlots x = office(1, 1);
        due.refuses(x, "pupil(1, 11)", BOUNDS, () -> x.pupil(1, 11));
        due.refuses(x, "pupil(-1, -1)", BOUNDS, () -> x.pupil(-1, -1));
    }

    // ---- examiner

    @Says("0: tests so far; 1: those that were passed; 5 to 8: tests so far on the routes 0 to 3")
    static void testsOfAnExaminer() {
        TestSlots x = officeWhereAllAsked(1, 8);
        int[] none = {0, 0, 32, 0, 0, 0, 0, 0, 0};
        for (int what = 0; what <= 8; what++) {
            due.is("no tests, " + what, x.examiner(0, what), none[what]);
        }
        for (int i = 0; i < 4; i++) {
            x.test(i, i == 2);
        }
        x.next();
        x.test(4, true);
        int[] five = {5, 2, 40 - 4, 1, 0, 2, 1, 1, 1};
        for (int what = 0; what <= 8; what++) {
            due.is("five tests, " + what, x.examiner(0, what), five[what]);
        }
    }

    @Says("2: free slots in the diary; 3: closed ones")
    static void freeAndClosedSlots() {
        TestSlots x = officeWhereAllAsked(2, 4);
        due.is("free", x.examiner(0, 2), 38);
        due.is("closed", x.examiner(0, 3), 0);
        for (int days = 0; days <= 9; days++) {
            x.cancel(1, days);
        }
        due.is("all mornings are closed", x.examiner(1, 3), 20);
        due.is("the afternoons, less those of pupils", x.examiner(1, 2), 20 - 1);
        due.is("one of the other's", x.examiner(0, 2), 40 - 3);
        goOn(x, 10);
        due.is("ten days behind", x.examiner(1, 2), 40);
        due.is("none is closed", x.examiner(1, 3), 0);
    }

    @Says("4: mornings that were cancelled so far (also those without any slot that was open)")
    static void cancelledMornings() {
        TestSlots x = office(2, 0);
        due.is("none", x.examiner(1, 4), 0);
        x.cancel(1, 0);
        x.cancel(1, 0);
        x.cancel(1, 0);
        due.is("the same one three times", x.examiner(1, 4), 3);
        x.next();
        due.is("so far", x.examiner(1, 4), 3);
        due.is("not the other's", x.examiner(0, 4), 0);
        TestSlots y = officeWhereAllAsked(1, 2);
        y.test(0, true);
        y.test(1, true);
        y.cancel(0, 0);
        due.is("both slots were tested in", y.examiner(0, 4), 1);
    }

    @Says("examiner: Throws IndexOutOfBoundsException if there is no such examiner")
    static void noSuchExaminer() {
        TestSlots none = office(0, 1);
        due.refuses(none, "no examiners", BOUNDS, () -> none.examiner(0, 0));
        TestSlots one = office(1, 12);
        due.refuses(one, "one examiner", BOUNDS, () -> one.examiner(1, 0));
        TestSlots x = office(4, 0);
        for (int examiner : outside(3)) {
            due.refuses(x, "examiner " + examiner, BOUNDS, () -> x.examiner(examiner, 0));
        }
    }

    @Says("examiner: Throws IllegalArgumentException if what is not 0 to 8")
    static void noSuchPropertyOfAnExaminer() {
        TestSlots x = office(4, 0);
        for (int what : outside(8)) {
            due.refuses(x, "what " + what, ARGUMENT, () -> x.examiner(3, what));
        }
    }

    @Says("examiner: If several exceptions apply, the one that is named first in the throws clause is thrown.")
    static void examinerWithBothWrong() {
        TestSlots x = office(1, 1);
        due.refuses(x, "examiner(1, 9)", BOUNDS, () -> x.examiner(1, 9));
        due.refuses(x, "examiner(-1, -1)", BOUNDS, () -> x.examiner(-1, -1));
    }

    // ---- slot

    @Says("Returns the pupil who has it; NONE if it is free; -2 if it is closed.")
    static void whatASlotIs() {
        TestSlots x = officeWhereAllAsked(4, 12);
        for (int i = 0; i < 16; i++) {
            due.is("today's slot " + i, x.slot(i % 4, 0, i / 4), i < 12 ? i : NONE);
        }
        x.cancel(3, 9);
        due.is("closed", x.slot(3, 9, 1), -2);
        due.is("free", x.slot(3, 9, 2), -1);
        x.test(0, true);
        due.is("of the pupil 0 no more", x.slot(0, 0, 0), -2);
    }

    @Says("slot: Throws IndexOutOfBoundsException if there is no such examiner")
    static void noSlotWithoutExaminer() {
        TestSlots none = office(0, 1);
        due.refuses(none, "no examiners", BOUNDS, () -> none.slot(0, 0, 0));
        TestSlots one = office(1, 1);
        due.refuses(one, "one examiner", BOUNDS, () -> one.slot(1, 0, 0));
        TestSlots x = office(4, 0);
        for (int examiner : outside(3)) {
            due.refuses(x, "examiner " + examiner, BOUNDS, () -> x.slot(examiner, 0, 0));
        }
    }

    @Says("slot: Throws IllegalArgumentException if days or slot is out of range")
    static void noSuchSlot() {
        TestSlots x = office(4, 0);
        for (int days : outside(9)) {
            due.refuses(x, "days " + days, ARGUMENT, () -> x.slot(0, days, 0));
        }
        for (int slot : outside(3)) {
            due.refuses(x, "slot " + slot, ARGUMENT, () -> x.slot(0, 0, slot));
            due.refuses(x, "days 10, slot " + slot, ARGUMENT, () -> x.slot(0, 10, slot));
        }
        due.is("the first slot", x.slot(0, 0, 0), NONE);
        due.is("the last slot", x.slot(3, 9, 3), NONE);
    }

    @Says("slot: If several exceptions apply, the one that is named first in the throws clause is thrown.")
    static void slotWithSeveralWrong() {
        TestSlots x = office(1, 0);
        due.refuses(x, "slot(1, 10, 4)", BOUNDS, () -> x.slot(1, 10, 4));
        due.refuses(x, "slot(-1, -1, 0)", BOUNDS, () -> x.slot(-1, -1, 0));
        due.refuses(x, "slot(4, 0, -1)", BOUNDS, () -> x.slot(4, 0, -1));
    }

    // ---- count

    private static void countsAre(TestSlots x, int... counts) {
        for (int what = 0; what <= 14; what++) {
            due.is("count(" + what + ")", x.count(what), counts[what]);
        }
    }

    @Says("count: an empty office")
    static void countsOfNobody() {
        countsAre(new TestSlots(), 0, 0, 0, 0, 0, 0, 0, 0, 0, 0, 0, 0, 0, 0, 0);
    }

    @Says("count: a full office")
    static void countsOfAll() {
        countsAre(officeWhereAllAsked(4, 12), 0, 4, 12, 0, 0, 12, 0, 0, 0, 0, 0, 600, 148, 0, 6);
    }

    @Says("3 to 6: pupils who are idle, wait, have a slot, have passed")
    static void countsOfPupils() {
        TestSlots x = office(1, 10);
        x.ask(0);
        x.test(0, false);
        x.ask(0);
        for (int i = 1; i <= 3; i++) {
            x.ask(i);
        }
        x.test(1, true);
        due.is("idle", x.count(3), 6);
        due.is("waits", x.count(4), 1);
        due.is("have a slot", x.count(5), 2);
        due.is("has passed", x.count(6), 1);
    }

    @Says("7: tests so far; 8: tests so far that were passed")
    static void countsOfTests() {
        TestSlots x = officeWhereAllAsked(2, 6);
        x.test(0, true);
        x.test(1, false);
        x.test(3, true);
        due.is("tests", x.count(7), 3);
        due.is("passed", x.count(8), 2);
        goOn(x, 11);
        due.is("tests so far", x.count(7), 3);
        due.is("passed so far", x.count(8), 2);
    }

    @Says("9: pupils moved so far, one by one; 10: pupils who stayed away so far, one by one")
    static void countsOneByOne() {
        TestSlots x = officeWhereAllAsked(1, 2);
        x.cancel(0, 0);
        x.quit(1);
        x.ask(1);
        x.next();
        due.is("moved", x.count(9), 2);
        due.is("stayed away", x.count(10), 2);
        x.ask(0);
        x.cancel(0, 0);
        x.next();
        due.is("the same pupil again, moved", x.count(9), 3);
        due.is("the same pupil again, stayed away", x.count(10), 3);
    }

    @Says("11: the money that was taken, less what was paid back")
    static void countOfMoney() {
        TestSlots x = office(0, 12);
        x.set(3, 999);
        for (int i = 0; i < 12; i++) {
            x.ask(i);
        }
        due.is("all paid", x.count(11), 12 * 999);
        for (int i = 0; i < 12; i++) {
            x.quit(i);
        }
        due.is("all paid back", x.count(11), 0);
    }

    @Says("12: free slots in the diary")
    static void countOfFreeSlots() {
        due.is("no examiners", office(0, 1).count(12), 0);
        for (int examiners = 1; examiners <= 4; examiners++) {
            due.is("examiners: " + examiners, office(examiners, 0).count(12), 40 * examiners);
        }
        TestSlots x = officeWhereAllAsked(2, 3);
        x.cancel(1, 9);
        due.is("less those of pupils and closed ones", x.count(12), 80 - 3 - 2);
    }

    @Says("13: the days from today to the slots that pupils have, all together")
    static void countOfDays() {
        due.is("none", office(4, 12).count(13), 0);
        due.is("today", officeWhereAllAsked(1, 4).count(13), 0);
        TestSlots x = officeWhereAllAsked(1, 12);
        due.is("today to the day after tomorrow", x.count(13), 4 * 0 + 4 * 1 + 4 * 2);
        x.next();
        due.is("a day nearer", x.count(13), 4 * 0 + 4 * 1);
        TestSlots y = crowdedLastDay();
        due.is("the last day; those who wait do not count", y.count(13), 6 * 9);
    }

    @Says("14: saved states")
    static void countOfSavedStates() {
        TestSlots x = new TestSlots();
        for (int i = 0; i <= 8; i++) {
            due.is("behind " + i + " calls", x.count(14), Math.min(6, i));
            x.next();
        }
    }

    @Says("count: Throws IllegalArgumentException if what is not 0 to 14")
    static void noSuchCount() {
        TestSlots x = office(4, 12);
        for (int what : outside(14)) {
            due.refuses(x, "what " + what, ARGUMENT, () -> x.count(what));
        }
    }

    // ---- setting

    @Says("setting: Throws IndexOutOfBoundsException if there is no such setting")
    static void noSuchSetting() {
        TestSlots x = new TestSlots();
        int[] first = {3, 1, 2, 50};
        for (int setting = 0; setting <= 3; setting++) {
            due.is("setting " + setting, x.setting(setting), first[setting]);
        }
        for (int setting : outside(3)) {
            due.refuses(x, "setting " + setting, BOUNDS, () -> x.setting(setting));
        }
    }

    // ---- nothing is changed

    @Says("looks; nothing is changed")
    static void looksChangeNothing() {
        TestSlots x = crowdedLastDay();
        write(x, "ask0;x");
        long before = x.digest();
        for (int what = 0; what <= 14; what++) {
            x.count(what);
        }
        for (int what = 0; what <= 10; what++) {
            x.pupil(7, what);
        }
        for (int what = 0; what <= 8; what++) {
            x.examiner(1, what);
        }
        x.slot(1, 9, 3);
        x.setting(3);
        due.is("the digest", x.digest(), before);
        due.is("the buffer's length", x.clearBuffer(), 6);
    }
}
