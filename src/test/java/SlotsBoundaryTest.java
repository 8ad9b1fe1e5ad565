/** The edges that the document names for slots: asking, quitting, cancelling, tests, days, settings. */
public final class SlotsBoundaryTest extends Offices {
    public static void main(String[] args) {
        Sentences.lookAt(SlotsBoundaryTest.class, due);
    }

    // ---- which slot can be had

    @Says("A slot can be had by a pupil if it is free")
    static void onlyFreeSlotsAreHad() {
        TestSlots x = office(1, 5);
        x.cancel(0, 0);
        due.is("behind the closed ones", x.ask(0), 0);
        due.is("its place", place(x, 0), 20);
        due.is("the day's last slot", x.ask(1), 0);
        due.is("its place", place(x, 1), 30);
        due.is("the day is full", x.ask(2), 1);
        x.quit(1);
        due.is("free again", x.ask(3), 0);
        due.is("its place", place(x, 3), 30);
    }

    @Says("its day is not ahead of the one from which on the pupil may be tested")
    static void fromTheDayOn() {
        for (int days = 1; days <= 9; days++) {
            TestSlots x = officeWithFailedPupil(days);
            due.is("a wait of " + days, x.ask(0), days);
            due.is("the day's first slot", place(x, 0), 100 * days);
        }
        TestSlots y = officeWithFailedPupil(10);
        due.is("a wait up to behind the diary", y.ask(0), NONE);
        due.is("waits", y.pupil(0, 0), WAITS);
        y.next();
        due.is("the day has come into the diary", place(y, 0), 900);
    }

    @Says("with setting 1 as 1, its examiner is not that of the pupil's latest test")
    static void notTheSameExaminer() {
        TestSlots x = office(1, 2);
        x.set(0, 0);
        x.ask(0);
        x.test(0, false);
        due.is("the only examiner is not had again", x.ask(0), NONE);
        due.is("without a test every examiner is had", x.ask(1), 0);
        x.addExaminer();
        due.is("another examiner is had", place(x, 0), 1);
        x.test(0, false);
        due.is("only the latest test's examiner is not had", x.ask(0), 0);
        due.is("the first examiner again", place(x, 0), 20);
    }

    @Says("whether the examiner of the latest test is not had again (1) or can be (0)")
    static void theSameExaminerWithSetting1As0() {
        TestSlots x = office(1, 1);
        x.set(0, 0);
        x.ask(0);
        x.test(0, false);
        x.set(1, 0);
        due.is("can be had", x.ask(0), 0);
        due.is("the examiner", x.pupil(0, 7), 0);
    }

    @Says("(Slots of today can be had, too.)")
    static void slotsOfToday() {
        TestSlots x = officeWhereAllAsked(1, 4);
        due.is("the first one", place(x, 0), 0);
        due.is("the last one", place(x, 3), 30);
        TestSlots y = officeWithFailedPupil(0);
        due.is("also behind a test of today", y.ask(0), 0);
        due.is("its place", place(y, 0), 10);
    }

    @Says("The earliest slot for a pupil is the one with the lowest day")
    static void theLowestDayFirst() {
        TestSlots x = office(1, 1);
        x.cancel(0, 0);
        x.ask(0);
        due.is("a high slot today ahead of a low one tomorrow", place(x, 0), 20);
        TestSlots y = office(2, 4);
        y.cancel(0, 0);
        y.cancel(1, 0);
        for (int i = 0; i < 4; i++) {
            y.ask(i);
        }
        due.is("the other examiner today ahead of the first one tomorrow", place(y, 3), 31);
    }

    @Says("of several the lowest slot")
    static void thenTheLowestSlot() {
        TestSlots x = officeWhereAllAsked(4, 5);
        due.is("the last examiner's slot 0", place(x, 3), 3);
        due.is("then the first one's slot 1", place(x, 4), 10);
    }

    @Says("of several the lowest examiner, among those that can be had.")
    static void thenTheLowestExaminer() {
        TestSlots x = officeWhereAllAsked(4, 4);
        for (int pupil = 0; pupil < 4; pupil++) {
            due.is("pupil " + pupil, place(x, pupil), pupil);
        }
        x.quit(1);
        x.quit(0);
        x.ask(1);
        due.is("the lowest one that is free", place(x, 1), 0);
    }

    // ---- waiting

    @Says("of like ones those who began to wait earlier")
    static void earlierOnesFirst() {
        int[] order = {3, 0, 2, 1};
        TestSlots x = office(0, 4);
        for (int pupil : order) {
            x.ask(pupil);
        }
        for (int i = 0; i < 4; i++) {
            due.is("the place of pupil " + order[i], x.pupil(order[i], 9), i);
        }
        x.addExaminer();
        for (int i = 0; i < 4; i++) {
            due.is("the slot of pupil " + order[i], place(x, order[i]), 10 * i);
        }
    }

    @Says("(who began earlier is told by a number that grows with each beginning)")
    static void whoBeginsAnewBeganLater() {
        TestSlots x = officeWhereAllAsked(0, 3);
        x.quit(0);
        x.ask(0);
        due.is("moved up", x.pupil(1, 9), 0);
        due.is("moved up too", x.pupil(2, 9), 1);
        due.is("anew, at the end", x.pupil(0, 9), 2);
        x.quit(1);
        x.ask(1);
        due.is("the longest now", x.pupil(2, 9), 0);
        due.is("at the end now", x.pupil(1, 9), 2);
    }

    @Says("those who were moved more often so far come first")
    static void movedOnesFirst() {
        TestSlots x = crowdedLastDay();
        x.cancel(0, 9);
        int[] order = {0, 1, 6, 7};
        for (int i = 0; i < order.length; i++) {
            due.is("the place of pupil " + order[i], x.pupil(order[i], 9), i);
        }
        x.quit(1);
        x.ask(1);
        due.is("ahead of those who began earlier, but were not moved", x.pupil(1, 9), 1);
        x.quit(0);
        x.ask(0);
        due.is("moved as often, began later", x.pupil(0, 9), 1);
    }

    @Says("those who were moved more often so far come first: twice ahead of once")
    static void movedTwiceFirst() {
        TestSlots x = office(1, 4);
        x.set(0, 0);
        x.ask(0);
        x.ask(1);
        x.cancel(0, 0);
        due.is("moved once into the afternoon", place(x, 0), 20);
        x.test(1, false);
        x.test(0, false);
        x.set(1, 0);
        x.ask(1);
        due.is("tomorrow's morning", place(x, 1), 100);
        x.cancel(0, 1);
        due.is("moved twice", x.pupil(1, 8), 2);
        x.quit(1);
        x.set(1, 1);
        x.ask(0);
        x.ask(1);
        due.is("once, and earlier", x.pupil(0, 9), 1);
        due.is("twice, and later", x.pupil(1, 9), 0);
    }

    @Says("To give slots out means to go through all waiting pupils in this order (as it is at the beginning)")
    static void allWaitingOnesInTheOrder() {
        TestSlots x = officeWhereAllAsked(0, 12);
        x.quit(0);
        x.ask(0);
        x.addExaminer();
        for (int pupil = 1; pupil < 12; pupil++) {
            due.is("the slot of pupil " + pupil, place(x, pupil), 100 * ((pupil - 1) / 4) + 10 * ((pupil - 1) % 4));
        }
        due.is("the last one", place(x, 0), 230);
    }

    @Says("each gets the earliest slot that can be had, if there is one.")
    static void whoCanHaveNoneStopsNobody() {
        TestSlots x = office(1, 3);
        x.set(0, 20);
        x.ask(0);
        x.test(0, false);
        due.is("none can be had", x.ask(0), NONE);
        due.is("the one behind gets a slot", x.ask(1), 0);
        due.is("waits on", x.pupil(0, 9), 0);
        due.is("nobody but that one waits", x.count(4), 1);
    }

    // ---- cancelling

    @Says("its slots 0 and 1 that are not closed are closed: free ones")
    static void aFreeMorningIsClosed() {
        TestSlots x = office(4, 1);
        for (int days : new int[] {0, 9}) {
            due.is("moved", x.cancel(3, days), 0);
            for (int slot = 0; slot < 4; slot++) {
                due.is("slot " + slot, x.slot(3, days, slot), slot < 2 ? CLOSED : NONE);
                due.is("slot " + slot + " of another examiner", x.slot(2, days, slot), NONE);
            }
        }
        due.is("free slots", x.count(12), 160 - 4);
        due.is("closed slots", x.examiner(3, 3), 4);
    }

    @Says("its slots 0 and 1 that are not closed are closed: closed ones stay so")
    static void aClosedMorningStaysClosed() {
        TestSlots x = officeWhereAllAsked(1, 2);
        x.test(0, true);
        due.is("one is closed, one of a pupil", x.cancel(0, 0), 1);
        due.is("who was tested is not moved", x.pupil(0, 8), 0);
        due.is("who was tested has passed", x.pupil(0, 0), PASSED);
        due.is("both are closed", x.cancel(0, 0), 0);
        due.is("closed slots", x.examiner(0, 3), 2);
        due.is("mornings", x.examiner(0, 4), 2);
        due.is("nobody was moved again", x.count(9), 1);
    }

    @Says("a pupil who had one of them (the slot 0 first) was moved once more, and begins to wait")
    static void theSlot0First() {
        TestSlots x = office(1, 2);
        x.ask(1);
        x.ask(0);
        due.is("moved", x.cancel(0, 0), 2);
        due.is("who had the slot 0", place(x, 1), 20);
        due.is("who had the slot 1", place(x, 0), 30);
        due.is("moved once", x.pupil(0, 8), 1);
        due.is("moved once", x.pupil(1, 8), 1);
        TestSlots y = crowdedLastDay();
        y.quit(0);
        y.quit(1);
        y.ask(1);
        y.ask(0);
        due.is("the freed slots go to those who wait", place(y, 6), 900);
        due.is("moved", y.cancel(0, 9), 2);
        due.is("the slot 0's pupil waits first", y.pupil(6, 9), 0);
        due.is("the slot 1's pupil behind", y.pupil(7, 9), 1);
    }

    @Says("a pupil who had one of them .. begins to wait: anew, so that when the pupil asked does not count")
    static void movedOnesBeginAnew() {
        TestSlots x = office(1, 3);
        x.ask(0);
        x.ask(1);
        x.quit(0);
        x.ask(2);
        due.is("asked last, has the slot 0", place(x, 2), 0);
        due.is("moved", x.cancel(0, 0), 2);
        due.is("is moved first, whoever asked first", place(x, 2), 20);
        due.is("is moved next", place(x, 1), 30);
    }

    @Says("then slots are given out (behind a cancelled morning): the same afternoon, or none")
    static void movedIntoWhatIsFree() {
        TestSlots x = officeWhereAllAsked(1, 4);
        due.is("moved", x.cancel(0, 0), 2);
        due.is("the afternoon is full: tomorrow", place(x, 0), 100);
        due.is("tomorrow too", place(x, 1), 110);
        TestSlots y = crowdedLastDay();
        y.cancel(0, 9);
        due.is("no other slot can be had", y.pupil(0, 0), WAITS);
        due.is("its slot", y.pupil(0, 5), NONE);
    }

    @Says("Cancels a morning: days 0 to 9, how many days behind today")
    static void cancelFromTodayToTheLastDay() {
        for (int days = 0; days <= 9; days++) {
            TestSlots x = office(1, 0);
            x.next();
            due.is("moved", x.cancel(0, days), 0);
            for (int i = 0; i < 40; i++) {
                due.is("slot", x.slot(0, i / 4, i % 4), i / 4 == days && i % 4 < 2 ? CLOSED : NONE);
            }
        }
    }

    @Says("cancel: Throws IllegalArgumentException if days is out of range")
    static void cancelOutOfRange() {
        TestSlots x = officeWhereAllAsked(2, 2);
        for (int days : outside(9)) {
            due.refuses(x, "days " + days, ARGUMENT, () -> x.cancel(1, days));
        }
    }

    @Says("cancel: Throws IndexOutOfBoundsException if there is no such examiner")
    static void cancelWithoutExaminer() {
        TestSlots none = new TestSlots();
        due.refuses(none, "no examiners", BOUNDS, () -> none.cancel(0, 0));
        TestSlots one = office(1, 0);
        due.refuses(one, "one examiner", BOUNDS, () -> one.cancel(1, 0));
        TestSlots x = office(4, 0);
        for (int examiner : outside(3)) {
            due.refuses(x, "examiner " + examiner, BOUNDS, () -> x.cancel(examiner, 0));
        }
    }

    @Says("cancel: If several exceptions apply, the one that is named first in the throws clause is thrown.")
    static void cancelWithBothWrong() {
        TestSlots x = office(2, 0);
        for (int days : outside(9)) {
            due.refuses(x, "examiner 2, days " + days, BOUNDS, () -> x.cancel(2, days));
        }
    }

    @Says("cancel: Returns how many pupils were moved.")
    static void cancelReturnsTheMoved() {
        TestSlots x = officeWhereAllAsked(1, 5);
        due.is("one", x.cancel(0, 1), 1);
        due.is("two", x.cancel(0, 0), 2);
        due.is("none", x.cancel(0, 0), 0);
        due.is("moved so far", x.count(9), 3);
    }

    // ---- asking

    @Says("Returns in how many days the slot is that the pupil got, NONE if the pupil waits.")
    static void askReturnsTheDays() {
        due.is("today", office(1, 1).ask(0), 0);
        due.is("the last day", officeWithFailedPupil(9).ask(0), 9);
        due.is("waits", officeWithFailedPupil(10).ask(0), NONE);
        due.is("waits without examiners", office(0, 1).ask(0), NONE);
    }

    @Says("ask: then slots are given out (also to those who waited before)")
    static void askGivesOutToAll() {
        TestSlots x = office(1, 2);
        x.set(0, 0);
        x.ask(0);
        x.test(0, false);
        x.ask(0);
        x.set(1, 0);
        due.is("waits still", x.pupil(0, 0), WAITS);
        due.is("who asks is behind", x.ask(1), 0);
        due.is("who waited is served first", place(x, 0), 10);
        due.is("who asked is served next", place(x, 1), 20);
    }

    @Says("A pupil who asks for a slot pays setting 3, as it is then; this is the fee")
    static void theFeeAsItIsThen() {
        TestSlots x = office(1, 4);
        int[] fees = {0, 1, 50, 999};
        for (int i = 0; i < 4; i++) {
            x.set(3, fees[i]);
            x.ask(i);
            due.is("paid", x.pupil(i, 10), fees[i]);
        }
        due.is("the money", x.count(11), 1050);
        x.set(3, 7);
        x.set(2, 0);
        for (int i = 0; i < 4; i++) {
            due.is("paid back", x.quit(i), fees[i]);
        }
        due.is("no money", x.count(11), 0);
    }

    @Says("(a pupil who is moved does not pay anew)")
    static void movedOnesDoNotPay() {
        TestSlots x = officeWhereAllAsked(1, 1);
        x.set(3, 999);
        x.set(2, 0);
        due.is("moved", x.cancel(0, 0), 1);
        due.is("paid", x.pupil(0, 10), 50);
        due.is("the fee is that of the asking", x.quit(0), 50);
    }

    @Says("ask: Throws IndexOutOfBoundsException if there is no such pupil")
    static void askWithoutPupil() {
        TestSlots none = office(1, 0);
        due.refuses(none, "no pupils", BOUNDS, () -> none.ask(0));
        TestSlots one = office(1, 1);
        due.refuses(one, "one pupil", BOUNDS, () -> one.ask(1));
        TestSlots x = office(1, 12);
        for (int pupil : outside(11)) {
            due.refuses(x, "pupil " + pupil, BOUNDS, () -> x.ask(pupil));
        }
    }

    @Says("ask: Throws IllegalStateException if the pupil is not idle")
    static void askOnlyWhenIdle() {
        TestSlots x = office(0, 1);
        x.ask(0);
        due.refuses(x, "waits", STATE, () -> x.ask(0));
        x.addExaminer();
        due.refuses(x, "has a slot", STATE, () -> x.ask(0));
        x.test(0, true);
        due.refuses(x, "has passed", STATE, () -> x.ask(0));
    }

    @Says("ask: who failed, quit or stayed away is idle, and may ask again")
    static void askAgain() {
        TestSlots x = officeWithFailedPupil(0);
        due.is("failed", x.ask(0), 0);
        x.quit(0);
        due.is("quit", x.ask(0), 0);
        x.next();
        due.is("stayed away", x.ask(0), 0);
        due.is("paid each time", x.pupil(0, 10), 4 * 50);
    }

    // ---- quitting

    @Says("When a pupil gives a slot back, it is free; the pupil is idle.")
    static void aSlotGivenBackIsFree() {
        TestSlots x = officeWhereAllAsked(1, 1);
        x.quit(0);
        due.is("free", x.slot(0, 0, 0), NONE);
        due.is("idle", x.pupil(0, 0), IDLE);
        due.is("its days", x.pupil(0, 5), NONE);
        due.is("free slots", x.count(12), 40);
    }

    @Says("If its day is less than setting 2 days behind today, the fee is lost; otherwise it is paid back.")
    static void theFeeIsLostOrPaidBack() {
        for (int setting = 0; setting <= 9; setting++) {
            for (int days = 0; days <= 9; days++) {
                TestSlots x = officeWithFailedPupil(days);
                x.set(2, setting);
                due.is("days", x.ask(0), days);
                due.is("setting 2 as " + setting + ", in " + days + " days", x.quit(0), days < setting ? 0 : 50);
                due.is("paid", x.pupil(0, 10), days < setting ? 100 : 50);
                due.is("money", x.count(11), days < setting ? 100 : 50);
            }
        }
    }

    @Says("If its day is less than setting 2 days behind today: today as it is when the slot is given back")
    static void theFeeIsLostAsDaysGoBy() {
        TestSlots x = officeWithFailedPupil(9);
        x.ask(0);
        goOn(x, 7);
        due.is("two days are left", x.quit(0), 50);
        x.undo();
        x.next();
        due.is("one day is left", x.quit(0), 0);
    }

    @Says("Who gives up waiting gets the fee back.")
    static void waitingIsGivenUp() {
        TestSlots x = officeWhereAllAsked(0, 2);
        x.set(2, 9);
        x.set(3, 999);
        due.is("paid back", x.quit(0), 50);
        due.is("idle", x.pupil(0, 0), IDLE);
        due.is("no place", x.pupil(0, 9), NONE);
        due.is("the one behind moves up", x.pupil(1, 9), 0);
        due.is("the money", x.count(11), 50);
        TestSlots y = crowdedLastDay();
        y.set(2, 9);
        y.cancel(0, 9);
        due.is("also who was moved", y.quit(0), 50);
    }

    @Says("Lets a pupil give a slot back, or give waiting up; then slots are given out.")
    static void quitGivesTheSlotToWhoWaits() {
        TestSlots x = crowdedLastDay();
        due.is("waits", x.pupil(6, 0), WAITS);
        x.quit(5);
        due.is("the first one who waits", place(x, 6), 931);
        due.is("the next one waits on", x.pupil(7, 9), 0);
        due.is("who quits does not get it again", x.pupil(5, 0), IDLE);
    }

    @Says("quit: then slots are given out, also behind waiting that was given up")
    static void quitOfWaitingGivesOut() {
        TestSlots x = office(1, 2);
        x.set(0, 0);
        x.ask(0);
        x.ask(1);
        x.test(0, false);
        x.test(1, false);
        x.ask(0);
        x.ask(1);
        x.set(1, 0);
        due.is("waits", x.pupil(1, 0), WAITS);
        x.quit(0);
        due.is("has a slot", place(x, 1), 20);
    }

    @Says("quit: Throws IndexOutOfBoundsException if there is no such pupil")
    static void quitWithoutPupil() {
        TestSlots none = office(1, 0);
        due.refuses(none, "no pupils", BOUNDS, () -> none.quit(0));
        TestSlots x = officeWhereAllAsked(1, 12);
        for (int pupil : outside(11)) {
            due.refuses(x, "pupil " + pupil, BOUNDS, () -> x.quit(pupil));
        }
        TestSlots one = officeWhereAllAsked(1, 1);
        due.refuses(one, "one pupil", BOUNDS, () -> one.quit(1));
    }

    @Says("quit: Throws IllegalStateException if the pupil has no slot, and does not wait")
    static void quitOnlyWithASlotOrWaiting() {
        TestSlots x = office(1, 2);
        due.refuses(x, "idle", STATE, () -> x.quit(0));
        x.ask(0);
        x.test(0, true);
        due.refuses(x, "has passed", STATE, () -> x.quit(0));
        x.ask(1);
        x.test(1, false);
        due.refuses(x, "has failed", STATE, () -> x.quit(1));
        TestSlots y = officeWhereAllAsked(1, 1);
        y.next();
        due.refuses(y, "stayed away", STATE, () -> y.quit(0));
        y.ask(0);
        y.quit(0);
        due.refuses(y, "twice", STATE, () -> y.quit(0));
    }

    // ---- tests

    @Says("Pupils with slots of today are tested.")
    static void onlySlotsOfToday() {
        TestSlots x = officeWhereAllAsked(1, 5);
        due.refuses(x, "a slot of tomorrow", STATE, () -> x.test(4, true));
        due.is("the last slot of today", x.test(3, true), 0);
        x.next();
        due.is("tomorrow is today", x.test(4, true), 1);
        TestSlots y = officeWithFailedPupil(9);
        y.ask(0);
        due.refuses(y, "a slot of the last day", STATE, () -> y.test(0, true));
    }

    @Says("test: Throws IllegalStateException if the pupil has no slot of today")
    static void noTestWithoutASlot() {
        TestSlots x = office(0, 1);
        due.refuses(x, "idle", STATE, () -> x.test(0, true));
        x.ask(0);
        due.refuses(x, "waits", STATE, () -> x.test(0, false));
        x.addExaminer();
        x.test(0, false);
        due.refuses(x, "has failed", STATE, () -> x.test(0, true));
        TestSlots y = officeWhereAllAsked(1, 1);
        y.test(0, true);
        due.refuses(y, "has passed", STATE, () -> y.test(0, true));
        due.refuses(y, "has passed", STATE, () -> y.test(0, false));
    }

    @Says("test: Throws IndexOutOfBoundsException if there is no such pupil")
    static void testWithoutPupil() {
        TestSlots none = office(1, 0);
        due.refuses(none, "no pupils", BOUNDS, () -> none.test(0, true));
        TestSlots x = officeWhereAllAsked(4, 12);
        for (int pupil : outside(11)) {
            due.refuses(x, "pupil " + pupil, BOUNDS, () -> x.test(pupil, true));
            due.refuses(x, "pupil " + pupil, BOUNDS, () -> x.test(pupil, false));
        }
    }

    @Says("The route of a test is the one on which this examiner was least often, of several the lowest one.")
    static void theLeastUsedRoute() {
        TestSlots x = officeWhereAllAsked(2, 12);
        int[] routes = {0, 1, 2, 3, 0, 1};
        for (int i = 0; i < 4; i++) {
            due.is("this examiner's route", x.test(2 * i, true), routes[i]);
        }
        due.is("the other examiner's route", x.test(1, true), 0);
        x.next();
        due.is("all as often: the lowest", x.test(8, true), 0);
        due.is("then the next one", x.test(10, true), 1);
    }

    @Says("of all but the route of the pupil's latest test")
    static void notTheLatestRoute() {
        TestSlots x = officeWithFailedPupil(0);
        int[] routes = {1, 2, 3};
        for (int route : routes) {
            x.ask(0);
            due.is("the least used one", x.test(0, false), route);
        }
        x.next();
        x.ask(0);
        due.is("all as often, the latest was 3", x.test(0, false), 0);
        x.ask(0);
        due.is("the route 0 is the latest", x.test(0, false), 1);
        TestSlots y = office(4, 1);
        y.set(0, 0);
        for (int i = 0; i < 4; i++) {
            y.ask(0);
            due.is("an examiner without tests, " + i, y.test(0, false), i % 2);
        }
    }

    @Says("If the pupil passes, that is all.")
    static void passing() {
        TestSlots x = office(1, 1);
        x.set(0, 20);
        x.ask(0);
        due.is("route", x.test(0, true), 0);
        due.is("has passed", x.pupil(0, 0), PASSED);
        due.is("failed tests", x.pupil(0, 1), 0);
        due.is("from the same day on", x.pupil(0, 2), 0);
        due.is("the latest route", x.pupil(0, 3), 0);
        due.is("the latest examiner", x.pupil(0, 4), 0);
        due.is("paid", x.pupil(0, 10), 50);
        due.is("tests that were passed", x.count(8), 1);
        x.next();
        due.is("nobody stays away", x.count(10), 0);
        due.is("passed for good", x.pupil(0, 0), PASSED);
    }

    @Says("Otherwise the pupil failed once more, is idle")
    static void failing() {
        TestSlots x = officeWithFailedPupil(0);
        due.is("failed once", x.pupil(0, 1), 1);
        due.is("idle", x.pupil(0, 0), IDLE);
        x.ask(0);
        x.test(0, false);
        due.is("failed twice", x.pupil(0, 1), 2);
        due.is("idle again", x.pupil(0, 0), IDLE);
        due.is("tests", x.count(7), 2);
        due.is("none was passed", x.count(8), 0);
    }

    @Says("from the day on that comes setting 0 days times the number of failed tests behind today, at most 60 days.")
    static void theWaitBehindFailing() {
        for (int setting = 0; setting <= 20; setting++) {
            for (int times = 1; times <= 16; times++) {
                TestSlots x = office(4, 1);
                x.next();
                x.set(1, 0);
                x.set(0, 0);
                for (int i = 1; i < times; i++) {
                    x.ask(0);
                    x.test(0, false);
                }
                x.ask(0);
                x.set(0, setting);
                x.test(0, false);
                due.is("failed", x.pupil(0, 1), times);
                due.is("setting 0 as " + setting + ", failed " + times + " times",
                    x.pupil(0, 2), 1 + Math.min(60, setting * times));
            }
        }
    }

    @Says("The slot is closed behind the test")
    static void theSlotIsClosedBehindTheTest() {
        TestSlots x = officeWhereAllAsked(1, 4);
        x.test(3, false);
        due.is("failed", x.slot(0, 0, 3), CLOSED);
        x.test(0, true);
        due.is("passed", x.slot(0, 0, 0), CLOSED);
        due.is("closed slots", x.examiner(0, 3), 2);
        due.is("free slots", x.examiner(0, 2), 36);
    }

    @Says("(no slots are given out then)")
    static void aTestGivesNothingOut() {
        for (int passes = 0; passes <= 1; passes++) {
            TestSlots x = office(1, 2);
            x.set(0, 0);
            x.ask(0);
            x.test(0, false);
            x.ask(0);
            x.ask(1);
            x.set(1, 0);
            x.test(1, passes == 1);
            due.is("waits on", x.pupil(0, 0), WAITS);
            x.cancel(0, 9);
            due.is("until slots are given out", place(x, 0), 20);
        }
    }

    // ---- days that go by

    @Says("each pupil who still has a slot of today stayed away: none")
    static void nobodyStaysAway() {
        TestSlots x = officeWhereAllAsked(1, 7);
        x.test(0, true);
        x.test(1, false);
        x.quit(2);
        x.quit(3);
        due.is("tested, gone or of tomorrow", x.next(), 0);
        due.is("so far", x.count(10), 0);
        due.is("have slots", x.count(5), 3);
        due.is("nobody there", new TestSlots().next(), 0);
        due.is("who waits does not stay away", officeWhereAllAsked(0, 12).next(), 0);
    }

    @Says("each pupil who still has a slot of today stayed away: the fee is lost, and the pupil is idle: all")
    static void allStayAway() {
        TestSlots x = officeWhereAllAsked(3, 12);
        due.is("stayed away", x.next(), 12);
        due.is("so far", x.count(10), 12);
        due.is("idle", x.count(3), 12);
        due.is("the money", x.count(11), 12 * 50);
        for (int pupil = 0; pupil < 12; pupil++) {
            int[] want = {IDLE, 0, 0, NONE, NONE, NONE, NONE, NONE, 0, NONE, 50};
            for (int what = 0; what <= 10; what++) {
                due.is("property " + what, x.pupil(pupil, what), want[what]);
            }
        }
        due.is("free slots", x.count(12), 120);
        due.is("none the next time", x.next(), 0);
        due.is("so far", x.count(10), 12);
    }

    @Says("Then the next day is today")
    static void theNextDayIsToday() {
        TestSlots x = officeWithFailedPupil(9);
        x.ask(0);
        x.cancel(0, 1);
        for (int day = 1; day <= 9; day++) {
            due.is("stayed away", x.next(), 0);
            due.is("the day", x.count(0), day);
            due.is("the slot comes nearer", place(x, 0), 100 * (9 - day));
        }
        due.is("it is today", x.test(0, true), 1);
    }

    @Says("the day that is new in the diary has free slots.")
    static void theNewDayIsFree() {
        TestSlots x = office(4, 1);
        for (int examiner = 0; examiner < 4; examiner++) {
            x.cancel(examiner, 9);
        }
        x.next();
        for (int i = 0; i < 16; i++) {
            due.is("the new day's slot " + i, x.slot(i / 4, 9, i % 4), NONE);
            due.is("the day before's slot " + i, x.slot(i / 4, 8, i % 4), i % 4 < 2 ? CLOSED : NONE);
        }
        TestSlots y = officeWithFailedPupil(9);
        y.ask(0);
        y.next();
        due.is("the pupil's slot", y.slot(0, 8, 0), 0);
        due.is("its place in the new day", y.slot(0, 9, 0), NONE);
        TestSlots z = office(0, 0);
        z.next();
        due.is("no examiners, no slots", z.count(12), 0);
    }

    @Says("a day that went by is in the diary no more: its closed slots and pupils are gone")
    static void yesterdayIsGone() {
        TestSlots x = officeWhereAllAsked(1, 2);
        x.test(0, true);
        x.cancel(0, 0);
        due.is("closed", x.examiner(0, 3), 2);
        x.next();
        due.is("closed", x.examiner(0, 3), 0);
        due.is("free", x.examiner(0, 2), 40);
        due.is("the slot", x.pupil(1, 5), NONE);
    }

    @Says("When a day goes by .. Then slots are given out.")
    static void aNewDayIsGivenOut() {
        TestSlots x = officeWithFailedPupil(12);
        x.ask(0);
        for (int i = 0; i < 2; i++) {
            x.next();
            due.is("waits", x.pupil(0, 0), WAITS);
        }
        x.next();
        due.is("the day has come", place(x, 0), 900);
        TestSlots y = officeWhereAllAsked(1, 1);
        y.next();
        due.is("who stayed away gets none", y.pupil(0, 0), IDLE);
    }

    /** No 512 calls come this far, so that the document can't be held to it; the class keeps it all the same. */
    @Says("next: Throws IllegalStateException if the day would be above 9999")
    static void theLastDay() {
        TestSlots x = office(0, 0);
        goOn(x, 9998);
        due.is("the day", x.count(0), 9998);
        due.is("up to 9999", x.next(), 0);
        due.is("the day", x.count(0), 9999);
        due.refuses(x, "above 9999", STATE, () -> x.next());
        x.undo();
        due.is("9999 again", x.next(), 0);
    }

    // ---- settings

    @Says("0: the days of a wait for each failed test, 0 to 20, at first 3")
    static void setting0() {
        settingIs(0, 20, 3);
    }

    @Says("1: whether the examiner of the latest test is not had again (1) or can be (0), at first 1")
    static void setting1() {
        settingIs(1, 1, 1);
    }

    @Says("2: how early a slot has to be given back, 0 to 9 days, at first 2")
    static void setting2() {
        settingIs(2, 9, 2);
    }

    @Says("3: the fee, 0 to 999, at first 50")
    static void setting3() {
        settingIs(3, 999, 50);
    }

    private static void settingIs(int setting, int highest, int first) {
        TestSlots x = new TestSlots();
        due.is("at first", x.setting(setting), first);
        due.is("previous", x.set(setting, highest), first);
        due.is("the highest", x.setting(setting), highest);
        for (int value : outside(highest)) {
            if (value < 0 || value > highest) {
                due.refuses(x, "value " + value, ARGUMENT, () -> x.set(setting, value));
            }
        }
        due.is("previous", x.set(setting, 0), highest);
        due.is("the lowest", x.setting(setting), 0);
        due.is("previous", x.set(setting, 1), 0);
        due.is("the others stay", x.setting(0) + x.setting(1) + x.setting(2) + x.setting(3), 56 - first + 1);
    }

    @Says("set: Throws IndexOutOfBoundsException if there is no such setting")
    static void noSuchSetting() {
        TestSlots x = new TestSlots();
        for (int setting : outside(3)) {
            due.refuses(x, "set " + setting, BOUNDS, () -> x.set(setting, 0));
        }
    }

    @Says("set: If several exceptions apply, the one that is named first in the throws clause is thrown.")
    static void setWithBothWrong() {
        TestSlots x = new TestSlots();
        for (int setting : outside(3)) {
            due.refuses(x, "set " + setting, BOUNDS, () -> x.set(setting, -1));
            due.refuses(x, "set " + setting, BOUNDS, () -> x.set(setting, 1000));
        }
    }

    @Says("(slots that pupils have stay, and none are given out)")
    static void setChangesNoSlots() {
        TestSlots x = officeWithFailedPupil(0);
        x.ask(0);
        x.set(1, 1);
        due.is("the same examiner's slot stays", place(x, 0), 10);
        TestSlots y = office(1, 1);
        y.set(0, 0);
        y.ask(0);
        y.test(0, false);
        y.ask(0);
        y.set(1, 0);
        due.is("none is given out", y.pupil(0, 0), WAITS);
        TestSlots z = officeWithFailedPupil(3);
        z.set(0, 0);
        due.is("the day from which on stays", z.pupil(0, 2), 3);
        z.set(3, 7);
        due.is("what was paid stays", z.pupil(0, 10), 50);
    }
}
