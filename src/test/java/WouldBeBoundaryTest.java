import java.math.BigInteger;
import java.util.ArrayList;
import java.util.List;

/** The edges that the document names for what would be: earliest to digest. */
public final class WouldBeBoundaryTest extends Offices {
    /** Worked out by hand, apart from the program. */
    private static final long DIGEST_OF_A_NEW_OBJECT = 615319323205089565L;

    public static void main(String[] args) {
        Sentences.lookAt(WouldBeBoundaryTest.class, due);
    }

    private static void earliestIs(TestSlots x, String when, int pupil, int days, int slot, int examiner) {
        due.is(when + ": days", x.earliest(pupil, 0), days);
        due.is(when + ": slot", x.earliest(pupil, 1), slot);
        due.is(when + ": examiner", x.earliest(pupil, 2), examiner);
    }

    private static void ifCancelledIs(TestSlots x, String when, int examiner, int days, int moved, int wait, int later) {
        due.is(when + ": moved", x.ifCancelled(examiner, days, 0), moved);
        due.is(when + ": wait", x.ifCancelled(examiner, days, 1), wait);
        due.is(when + ": later", x.ifCancelled(examiner, days, 2), later);
    }

    // ---- earliest

    @Says("Returns the number, of the earliest slot that can be had")
    static void theEarliestSlot() {
        TestSlots x = office(4, 12);
        earliestIs(x, "the first slot", 0, 0, 0, 0);
        for (int i = 0; i < 11; i++) {
            x.ask(i);
        }
        earliestIs(x, "the next one", 11, 0, 2, 3);
        x.ask(11);
        earliestIs(x, "the next slot", 0, 0, 3, 0);
        earliestIs(officeWithFailedPupil(9), "the last day", 0, 9, 0, 0);
        TestSlots y = crowdedLastDay();
        y.quit(7);
        y.quit(6);
        y.quit(5);
        earliestIs(y, "the last slot of all", 7, 9, 3, 1);
    }

    @Says("(whatever the pupil does now)")
    static void whateverThePupilDoes() {
        TestSlots x = office(1, 1);
        earliestIs(x, "idle", 0, 0, 0, 0);
        x.ask(0);
        earliestIs(x, "with a slot, another one", 0, 0, 1, 0);
        x.set(1, 0);
        x.test(0, true);
        earliestIs(x, "passed", 0, 0, 1, 0);
        x.set(1, 1);
        earliestIs(x, "passed, not the same examiner", 0, NONE, NONE, NONE);
        TestSlots y = office(1, 1);
        y.set(0, 0);
        y.ask(0);
        y.test(0, false);
        y.ask(0);
        y.set(1, 0);
        due.is("waits", y.pupil(0, 0), WAITS);
        earliestIs(y, "waiting", 0, 0, 1, 0);
    }

    @Says("earliest: NONE if there is none.")
    static void noEarliestSlot() {
        earliestIs(office(0, 1), "no examiners", 0, NONE, NONE, NONE);
        earliestIs(officeWithFailedPupil(10), "behind the diary", 0, NONE, NONE, NONE);
        earliestIs(crowdedLastDay(), "the last day is full", 6, NONE, NONE, NONE);
        TestSlots x = officeWhereAllAsked(1, 1);
        x.set(0, 0);
        x.test(0, false);
        earliestIs(x, "the same examiner alone", 0, NONE, NONE, NONE);
    }

    @Says("earliest: Throws IndexOutOfBoundsException if there is no such pupil")
    static void earliestWithoutPupil() {
        TestSlots none = office(1, 0);
        due.refuses(none, "no pupils", BOUNDS, () -> none.earliest(0, 0));
        TestSlots x = office(4, 12);
        for (int pupil : outside(11)) {
            due.refuses(x, "pupil " + pupil, BOUNDS, () -> x.earliest(pupil, 0));
        }
    }

    @Says("earliest: Throws IllegalArgumentException if what is not 0 to 2")
    static void earliestOfWhat() {
        TestSlots x = office(4, 12);
        TestSlots none = office(0, 1);
        for (int what : outside(2)) {
            due.refuses(x, "what " + what, ARGUMENT, () -> x.earliest(0, what));
            due.refuses(none, "no slot, what " + what, ARGUMENT, () -> none.earliest(0, what));
        }
    }

    @Says("earliest: If several exceptions apply, the one that is named first in the throws clause is thrown.")
    static void earliestWithBothWrong() {
        TestSlots x = office(1, 1);
        due.refuses(x, "earliest(1, 3)", BOUNDS, () -> x.earliest(1, 3));
        due.refuses(x, "earliest(-1, -1)", BOUNDS, () -> x.earliest(-1, -1));
    }

    // ---- ifCancelled

    @Says("0: how many pupils would be moved: none, one, two")
    static void howManyWouldBeMoved() {
        TestSlots x = officeWhereAllAsked(1, 5);
        ifCancelledIs(x, "two", 0, 0, 2, 0, 1000 + 1 + 1);
        ifCancelledIs(x, "one", 0, 1, 1, 0, 1000);
        ifCancelledIs(x, "none", 0, 2, 0, 0, 1000);
        ifCancelledIs(x, "none on the last day", 0, 9, 0, 0, 1000);
        x.test(0, true);
        ifCancelledIs(x, "who was tested is not moved", 0, 0, 1, 0, 1000 + 1);
        x.cancel(0, 0);
        ifCancelledIs(x, "a closed morning", 0, 0, 0, 0, 1000);
        due.is("another examiner's", officeWhereAllAsked(2, 1).ifCancelled(1, 0, 0), 0);
    }

    @Says("1: how many of these would wait then: none, one, two")
    static void howManyWouldWait() {
        TestSlots x = crowdedLastDay();
        ifCancelledIs(x, "both", 0, 9, 2, 2, 1000);
        x.quit(6);
        x.quit(7);
        ifCancelledIs(x, "both, nobody else waits", 0, 9, 2, 2, 1000);
        x.quit(5);
        ifCancelledIs(x, "one", 0, 9, 2, 1, 1000);
        x.quit(4);
        ifCancelledIs(x, "none", 0, 9, 2, 0, 1000);
    }

    @Says("1: how many of these would wait then (others who wait do not count)")
    static void othersWhoWaitDoNotCount() {
        TestSlots x = crowdedLastDay();
        due.is("two wait now", x.count(4), 2);
        ifCancelledIs(x, "a morning without pupils", 0, 8, 0, 0, 1000);
        ifCancelledIs(x, "a closed morning", 1, 9, 0, 0, 1000);
        x.addExaminer();
        due.is("nobody waits now", x.count(4), 0);
        ifCancelledIs(x, "two slots are left", 0, 9, 2, 0, 1000);
    }

    @Says("2: by how many days later the others of these would be tested, all together, plus 1000")
    static void howManyDaysLater() {
        TestSlots x = officeWhereAllAsked(1, 12);
        ifCancelledIs(x, "three days each", 0, 0, 2, 0, 1006);
        ifCancelledIs(x, "two days each", 0, 1, 2, 0, 1004);
        ifCancelledIs(x, "one day each", 0, 2, 2, 0, 1002);
        TestSlots y = officeWhereAllAsked(1, 3);
        ifCancelledIs(y, "one the same day, one a day later", 0, 0, 2, 0, 1001);
    }

    @Says("(earlier ones count below 0)")
    static void earlierOnes() {
        TestSlots x = officeWhereAllAsked(1, 12);
        x.quit(2);
        x.quit(3);
        ifCancelledIs(x, "two days earlier each", 0, 2, 2, 0, 996);
        x.quit(1);
        ifCancelledIs(x, "into today's first free slots", 0, 1, 2, 0, 998);
        x.quit(4);
        ifCancelledIs(x, "one earlier", 0, 1, 1, 0, 999);
        TestSlots y = office(1, 1);
        y.set(0, 9);
        y.ask(0);
        y.test(0, false);
        y.addExaminer();
        y.ask(0);
        y.set(1, 0);
        ifCancelledIs(y, "not ahead of the day", 1, 9, 1, 0, 1000);
    }

    @Says("Tells what a cancelled morning would bring: ahead of those who were moved less often")
    static void movedOnesComeFirst() {
        TestSlots x = office(1, 3);
        x.set(0, 0);
        x.ask(0);
        x.test(0, false);
        x.ask(0);
        x.ask(1);
        x.ask(2);
        x.set(1, 0);
        due.is("waits, and could have today's last slot", x.pupil(0, 0) * 10 + x.earliest(0, 1), 13);
        ifCancelledIs(x, "the moved one has it", 0, 0, 1, 0, 1000);
    }

    @Says("Tells what a cancelled morning would bring: behind those who were moved as often and began to wait earlier")
    static void movedOnesComeBehindEarlierOnes() {
        TestSlots x = office(1, 5);
        x.set(0, 0);
        x.ask(0);
        x.cancel(0, 0);
        x.test(0, false);
        x.ask(0);
        for (int i = 1; i < 5; i++) {
            x.ask(i);
        }
        x.set(1, 0);
        due.is("waits, was moved", x.pupil(0, 0) * 10 + x.pupil(0, 8), 11);
        due.is("tomorrow's last slot is left", place(x, 4), 120);
        ifCancelledIs(x, "both moved ones come a day later", 0, 1, 2, 0, 1002);
    }

    @Says("ifCancelled: days: 0 to 9, how many days behind today")
    static void ifCancelledFromTodayToTheLastDay() {
        for (int days = 0; days <= 9; days++) {
            TestSlots x = officeWithFailedPupil(days);
            x.ask(0);
            ifCancelledIs(x, "in " + days + " days", 0, days, 1, 0, 1000);
            due.is("the other days", x.ifCancelled(0, 9 - days, 0), 9 - days == days ? 1 : 0);
        }
    }

    @Says("ifCancelled: Throws IndexOutOfBoundsException if there is no such examiner")
    static void ifCancelledWithoutExaminer() {
        TestSlots none = office(0, 1);
        due.refuses(none, "no examiners", BOUNDS, () -> none.ifCancelled(0, 0, 0));
        TestSlots x = office(4, 0);
        for (int examiner : outside(3)) {
            due.refuses(x, "examiner " + examiner, BOUNDS, () -> x.ifCancelled(examiner, 0, 0));
        }
    }

    @Says("ifCancelled: Throws IllegalArgumentException if days is out of range, or what is not 0 to 2")
    static void ifCancelledOutOfRange() {
        TestSlots x = office(4, 0);
        for (int days : outside(9)) {
            due.refuses(x, "days " + days, ARGUMENT, () -> x.ifCancelled(0, days, 0));
        }
        for (int what : outside(2)) {
            due.refuses(x, "what " + what, ARGUMENT, () -> x.ifCancelled(0, 0, what));
            due.refuses(x, "days 10, what " + what, ARGUMENT, () -> x.ifCancelled(0, 10, what));
        }
    }

    @Says("ifCancelled: If several exceptions apply, the one that is named first in the throws clause is thrown.")
    static void ifCancelledWithSeveralWrong() {
        TestSlots x = office(1, 0);
        due.refuses(x, "ifCancelled(1, 10, 3)", BOUNDS, () -> x.ifCancelled(1, 10, 3));
        due.refuses(x, "ifCancelled(-1, -1, 0)", BOUNDS, () -> x.ifCancelled(-1, -1, 0));
        due.refuses(x, "ifCancelled(4, 0, -1)", BOUNDS, () -> x.ifCancelled(4, 0, -1));
    }

    // ---- ifTested

    @Says("Returns the route, if this examiner tested the pupil now.")
    static void theRouteIfTested() {
        TestSlots x = officeWhereAllAsked(2, 12);
        due.is("no tests: the lowest route", x.ifTested(11, 1), 0);
        for (int i = 0; i < 4; i++) {
            due.is("the next route", x.ifTested(11, 0), i);
            due.is("is the one that is had", x.test(2 * i, false), i);
        }
        due.is("all as often", x.ifTested(11, 0), 0);
        due.is("the latest route is not had", x.ifTested(0, 0), 1);
        due.is("nor with another examiner", x.ifTested(0, 1), 1);
        due.is("another latest route", x.ifTested(2, 0), 0);
        due.is("of tomorrow's pupil, too", x.ifTested(8, 0), 0);
        x.test(1, true);
        due.is("who passed, too", x.ifTested(1, 1), 1);
    }

    @Says("ifTested: Throws IndexOutOfBoundsException if there is no such pupil or examiner")
    static void ifTestedWithoutPupilOrExaminer() {
        TestSlots noPupil = office(1, 0);
        due.refuses(noPupil, "no pupils", BOUNDS, () -> noPupil.ifTested(0, 0));
        TestSlots noExaminer = office(0, 1);
        due.refuses(noExaminer, "no examiners", BOUNDS, () -> noExaminer.ifTested(0, 0));
        TestSlots x = office(4, 12);
        for (int pupil : outside(11)) {
            due.refuses(x, "pupil " + pupil, BOUNDS, () -> x.ifTested(pupil, 0));
        }
        for (int examiner : outside(3)) {
            due.refuses(x, "examiner " + examiner, BOUNDS, () -> x.ifTested(0, examiner));
            due.refuses(x, "both, " + examiner, BOUNDS, () -> x.ifTested(12, examiner));
        }
    }

    // ---- couldHave

    @Says("couldHave: nobody, or no slots")
    static void nobodyCouldHave() {
        for (int days = 0; days <= 9; days++) {
            due.is("no pupils, no examiners", new TestSlots().couldHave(days), 0);
            due.is("no pupils", office(4, 0).couldHave(days), 0);
            due.is("no examiners", office(0, 12).couldHave(days), 0);
        }
    }

    @Says("Returns how many pupils could have slots of this day at once, at most (each another one that can be had).")
    static void noMoreThanSlotsOrPupils() {
        for (int examiners = 1; examiners <= 4; examiners++) {
            for (int pupils = 0; pupils <= 12; pupils++) {
                TestSlots x = office(examiners, pupils);
                due.is(examiners + " examiners, " + pupils + " pupils", x.couldHave(9), Math.min(4 * examiners, pupils));
                x.cancel(0, 9);
                due.is("a morning is closed", x.couldHave(9), Math.min(4 * examiners - 2, pupils));
                for (int examiner = 1; examiner < examiners; examiner++) {
                    x.cancel(examiner, 9);
                }
                due.is("all mornings are closed", x.couldHave(9), Math.min(2 * examiners, pupils));
            }
        }
    }

    @Says("pupils without a slot who have not passed")
    static void whoCouldHave() {
        TestSlots x = office(1, 5);
        due.is("idle ones", x.couldHave(9), 4);
        for (int i = 0; i < 3; i++) {
            x.ask(i);
        }
        due.is("not those with a slot", x.couldHave(9), 2);
        x.set(1, 0);
        x.test(0, true);
        due.is("not those who passed", x.couldHave(9), 2);
        x.test(1, false);
        due.is("those who failed", x.couldHave(9), 3);
        TestSlots y = office(1, 1);
        y.set(0, 0);
        y.ask(0);
        y.test(0, false);
        y.ask(0);
        y.set(1, 0);
        due.is("waits", y.pupil(0, 0), WAITS);
        due.is("those who wait", y.couldHave(0), 1);
    }

    @Says("could have slots of this day: not ahead of the day from which on the pupil may be tested")
    static void couldHaveFromTheDayOn() {
        for (int wait = 0; wait <= 10; wait++) {
            TestSlots x = officeWithFailedPupil(wait);
            for (int days = 0; days <= 9; days++) {
                due.is("a wait of " + wait + ", in " + days + " days", x.couldHave(days), days >= wait ? 1 : 0);
            }
        }
    }

    @Says("could have slots of this day: not with the examiner of the latest test")
    static void couldHaveOtherExaminers() {
        TestSlots x = officeWhereAllAsked(1, 4);
        x.set(0, 0);
        for (int i = 0; i < 4; i++) {
            x.test(i, false);
        }
        due.is("the same examiner alone", x.couldHave(5), 0);
        x.addPupil();
        due.is("a new pupil", x.couldHave(5), 1);
        x.addExaminer();
        due.is("another examiner: the new one takes the first one's slot", x.couldHave(5), 5);
        x.cancel(1, 5);
        due.is("two slots of the other, one of the first", x.couldHave(5), 3);
        x.set(1, 0);
        due.is("with setting 1 as 0", x.couldHave(5), 5);
    }

    @Says("at most: who can have every slot leaves those to others that they alone can have")
    static void atMostWhateverTheOrder() {
        TestSlots x = office(2, 6);
        x.set(0, 0);
        for (int i = 2; i < 6; i++) {
            x.ask(i);
        }
        x.test(2, true);
        x.test(3, false);
        x.test(4, true);
        x.test(5, false);
        due.is("two can have the examiner 0 alone", x.pupil(3, 4) + x.pupil(5, 4), 1 + 1);
        due.is("both whole days", x.couldHave(5), 4);
        x.cancel(0, 5);
        due.is("the new ones leave the afternoon of the examiner 0", x.couldHave(5), 4);
        x.cancel(1, 5);
        due.is("two slots of each", x.couldHave(5), 4);
        x.ask(0);
        x.ask(1);
        due.is("today one slot of the examiner 0 is left", x.couldHave(0), 1);
        x.set(1, 0);
        due.is("today one slot of each is left", x.couldHave(0), 2);
        due.is("two are left without a slot", x.couldHave(5), 2);
    }

    @Says("couldHave: Throws IllegalArgumentException if days is out of range")
    static void couldHaveOutOfRange() {
        TestSlots x = office(4, 12);
        for (int days : outside(9)) {
            due.refuses(x, "days " + days, ARGUMENT, () -> x.couldHave(days));
        }
    }

    // ---- passedShare

    @Says("1.0 if there was none.")
    static void theShareWithoutTests() {
        due.is("nobody", new TestSlots().passedShare(), 1.0);
        TestSlots x = officeWhereAllAsked(4, 12);
        due.is("no tests", x.passedShare(), 1.0);
        x.test(0, false);
        x.undo();
        due.is("no tests again", x.passedShare(), 1.0);
    }

    @Says("Returns count(8), as a double, divided by count(7)")
    static void theShareOfTests() {
        for (int passed = 0; passed <= 12; passed++) {
            for (int failed = passed == 0 ? 1 : 0; passed + failed <= 12; failed++) {
                TestSlots x = officeWhereAllAsked(3, 12);
                for (int i = 0; i < passed + failed; i++) {
                    x.test(i, i < passed);
                }
                due.is(passed + " of " + (passed + failed), x.passedShare(), (double) passed / (passed + failed));
            }
        }
    }

    // ---- digest

    @Says("The hash starts at 2731. (A new object)")
    static void theDigestOfANewObject() {
        due.is("a new object", new TestSlots().digest(), DIGEST_OF_A_NEW_OBJECT);
    }

    @Says("31 * hash + v, in long arithmetic with overflow")
    static void theHashWrapsAround() {
        hashIs(new TestSlots(), "");
        hashIs(office(0, 1), "");
        hashIs(office(1, 0), "");
        hashIs(officeWhereAllAsked(4, 12), "");
        TestSlots x = crowdedLastDay();
        write(x, "ask0;~!");
        hashIs(x, "ask0;~!");
    }

    /** The hash by numbers without bound, cut down to 64 bits at the end alone. */
    private static void hashIs(TestSlots x, String buffer) {
        BigInteger hash = BigInteger.valueOf(2731);
        for (long value : valuesOf(x, buffer)) {
            hash = hash.multiply(BigInteger.valueOf(31)).add(BigInteger.valueOf(value));
        }
        due.holds("the hash is longer than 64 bits", hash.bitLength() > 64);
        due.is("digest", x.digest(), hash.longValue());
    }

    private static List<Long> valuesOf(TestSlots x, String buffer) {
        List<Long> values = new ArrayList<>();
        for (int what = 0; what <= 14; what++) {
            values.add((long) x.count(what));
        }
        for (int setting = 0; setting <= 3; setting++) {
            values.add((long) x.setting(setting));
        }
        for (int i = 0; i < 14 * x.count(2); i++) {
            values.add((long) (i % 14 <= 10 ? x.pupil(i / 14, i % 14) : x.earliest(i / 14, i % 14 - 11)));
        }
        for (int examiner = 0; examiner < x.count(1); examiner++) {
            for (int what = 0; what <= 8; what++) {
                values.add((long) x.examiner(examiner, what));
            }
            for (int i = 0; i < 40; i++) {
                values.add((long) x.slot(examiner, i / 4, i % 4));
            }
            for (int i = 0; i < 6; i++) {
                values.add((long) x.ifCancelled(examiner, i / 3, i % 3));
            }
            if (x.count(2) > 0) {
                values.add((long) x.ifTested(0, examiner));
            }
        }
        for (int days : new int[] {0, 1, 5}) {
            values.add((long) x.couldHave(days));
        }
        values.add(Double.doubleToLongBits(x.passedShare()));
        values.add((long) buffer.length());
        for (int i = 0; i < buffer.length(); i++) {
            values.add((long) buffer.charAt(i));
        }
        return values;
    }

    @Says("and ifTested of the pupil 0, if there is one")
    static void theDigestWithAndWithoutPupils() {
        due.is("examiners alone", office(4, 0).digest(), digestOf(office(4, 0), ""));
        due.is("pupils alone", office(0, 12).digest(), digestOf(office(0, 12), ""));
        due.is("one of each", office(1, 1).digest(), digestOf(office(1, 1), ""));
    }

    @Says("couldHave in 0, 1 and 5 days")
    static void couldHaveInTheDigest() {
        for (int days = 0; days <= 9; days++) {
            TestSlots x = office(1, 12);
            x.cancel(0, days);
            due.is("other slots in " + days + " days", x.couldHave(days), 2);
            due.is("the digest", x.digest(), digestOf(x, ""));
        }
    }

    @Says("ifCancelled in 0 and in 1 days, each with 0 to 2")
    static void ifCancelledInTheDigest() {
        TestSlots x = officeWhereAllAsked(1, 12);
        due.is("today's pupils would come three days later", x.ifCancelled(0, 0, 2), 1006);
        due.is("tomorrow's pupils would come two days later", x.ifCancelled(0, 1, 2), 1004);
        due.is("the digest", x.digest(), digestOf(x, ""));
    }

    @Says("the bits of passedShare (as Double.doubleToLongBits)")
    static void theBitsOfTheShare() {
        for (int tests = 1; tests <= 12; tests++) {
            for (int passed = 0; passed <= tests; passed++) {
                TestSlots x = officeWhereAllAsked(3, 12);
                for (int i = 0; i < tests; i++) {
                    x.test(i, i < passed);
                }
                due.is(passed + " of " + tests, x.digest(), digestOf(x, ""));
            }
        }
    }

    @Says("the length of the buffer and each of its character codes.")
    static void theBufferInTheDigest() {
        TestSlots x = new TestSlots();
        String text = "";
        for (int i = 0; i < 60; i++) {
            due.is("length " + i, x.digest(), digestOf(x, text));
            char c = (char) (33 + 37 * i % 94);
            x.append(c);
            text += c;
        }
        due.is("a full buffer", x.digest(), digestOf(x, text));
        x.clearBuffer();
        due.is("cleared", x.digest(), digestOf(x, ""));
        x.append('~');
        due.is("what stood behind does not count", x.digest(), digestOf(x, "~"));
    }

    // ---- nothing is changed

    @Says("what would be; nothing is changed")
    static void nothingIsChanged() {
        TestSlots x = crowdedLastDay();
        write(x, "ask0");
        long seen = seen(x);
        long digest = x.digest();
        for (int days = 0; days <= 9; days++) {
            for (int what = 0; what <= 2; what++) {
                x.ifCancelled(0, days, what);
                x.ifCancelled(1, days, what);
            }
            x.couldHave(days);
        }
        for (int pupil = 0; pupil < 8; pupil++) {
            x.earliest(pupil, 0);
            x.ifTested(pupil, 1);
        }
        x.passedShare();
        due.is("the looks", seen(x), seen);
        due.is("the digest", x.digest(), digest);
        due.is("the buffer's length", x.clearBuffer(), 4);
        x.undo();
        due.is("the saved state: 7 has not asked", x.pupil(7, 0), IDLE);
        due.is("the saved state: 6 waits", x.pupil(6, 9), 0);
    }
}
