/** Each promise by hand: ordinary inputs, the edges that the document names, and wrong inputs. */
public final class PromiseTest extends Offices {
    public static void main(String[] args) {
        newObject();
        addExaminer();
        addPupil();
        ask();
        askInOrder();
        quit();
        quitGivesOut();
        cancel();
        cancelOrder();
        test();
        testWaits();
        testRoutes();
        next();
        lastDay();
        set();
        append();
        clearBuffer();
        firstError();
        run();
        runStops();
        undo();
        undoHidden();
        pupil();
        examiner();
        slot();
        count();
        setting();
        earliest();
        ifCancelled();
        ifTested();
        couldHave();
        couldHaveByExaminers();
        passedShare();
        digest();
        due.end();
    }

    private static void newObject() {
        TestSlots x = new TestSlots();
        for (int what = 0; what <= 14; what++) {
            due.is("1 count " + what, x.count(what), 0);
        }
        due.is("1 setting 0", x.setting(0), 3);
        due.is("1 setting 1", x.setting(1), 1);
        due.is("1 setting 2", x.setting(2), 2);
        due.is("1 setting 3", x.setting(3), 50);
        due.is("1 NONE", TestSlots.NONE, -1);
        due.is("1 firstError", x.firstError(), 0);
        due.is("1 clearBuffer", x.clearBuffer(), 0);
    }

    private static void addExaminer() {
        TestSlots x = new TestSlots();
        x.addPupil();
        x.addPupil();
        x.ask(1);
        x.ask(0);
        due.is("2 first", x.addExaminer(), 0);
        due.is("2 who waited first", place(x, 1), 0);
        due.is("2 who waited next", place(x, 0), 10);
        due.is("2 second", x.addExaminer(), 1);
        due.is("2 third", x.addExaminer(), 2);
        due.is("2 free slots", x.examiner(2, 2), 40);
        due.is("2 closed slots", x.examiner(2, 3), 0);
        due.is("2 fourth", x.addExaminer(), 3);
        due.is("2 saved", x.count(14), 6);
        due.refuses(x, "2 fifth", STATE, () -> x.addExaminer());
        x.undo();
        due.is("2 undone", x.count(1), 3);
        due.is("2 again", x.addExaminer(), 3);

        TestSlots later = new TestSlots();
        goOn(later, 5);
        later.addExaminer();
        due.is("2 later, all free", later.count(12), 40);
        goOn(later, 1);
        due.is("2 the new day is free", later.count(12), 40);
    }

    private static void addPupil() {
        TestSlots x = new TestSlots();
        x.addExaminer();
        goOn(x, 3);
        for (int i = 0; i < 12; i++) {
            due.is("3 number", x.addPupil(), i);
        }
        due.is("3 idle", x.pupil(11, 0), 0);
        due.is("3 from today on", x.pupil(11, 2), 3);
        due.is("3 no route", x.pupil(11, 3), NONE);
        due.is("3 no examiner", x.pupil(11, 4), NONE);
        due.refuses(x, "3 thirteenth", STATE, () -> x.addPupil());
        x.ask(11);
        x.undo();
        x.undo();
        due.is("3 undone", x.count(2), 11);
        x.next();
        due.is("3 again", x.addPupil(), 11);
        due.is("3 as new", x.pupil(11, 10), 0);
        due.is("3 as new, from today on", x.pupil(11, 2), 4);

        TestSlots y = office(1, 1);
        y.ask(0);
        y.cancel(0, 0);
        y.test(0, false);
        y.addPupil();
        for (int what : new int[] {0, 1, 2, 8, 10}) {
            due.is("3 a second one is new, " + what, y.pupil(1, what), 0);
        }
    }

    private static void ask() {
        TestSlots x = office(1, 6);
        due.is("4 first slot", x.ask(0), 0);
        due.is("4 place", place(x, 0), 0);
        due.is("4 has a slot", x.pupil(0, 0), 2);
        due.is("4 paid", x.pupil(0, 10), 50);
        x.set(3, 70);
        due.is("4 second slot", x.ask(5), 0);
        due.is("4 second place", place(x, 5), 10);
        due.is("4 paid as it is then", x.pupil(5, 10), 70);
        due.is("4 money", x.count(11), 120);
        x.ask(1);
        x.ask(2);
        due.is("4 next day", x.ask(3), 1);
        due.is("4 next day's place", place(x, 3), 100);
        due.refuses(x, "4 with a slot", STATE, () -> x.ask(0));
        due.refuses(x, "4 no such pupil", BOUNDS, () -> x.ask(6));
        due.refuses(x, "4 pupil below 0", BOUNDS, () -> x.ask(-1));
        due.refuses(x, "4 lowest pupil", BOUNDS, () -> x.ask(Integer.MIN_VALUE));
        due.refuses(x, "4 highest pupil", BOUNDS, () -> x.ask(Integer.MAX_VALUE));
        x.test(0, true);
        due.refuses(x, "4 passed", STATE, () -> x.ask(0));

        TestSlots y = office(0, 1);
        due.is("4 waits", y.ask(0), NONE);
        due.is("4 is waiting", y.pupil(0, 0), 1);
        due.refuses(y, "4 waiting", STATE, () -> y.ask(0));

        TestSlots z = office(3, 7);
        for (int i = 0; i < 7; i++) {
            z.ask(i);
        }
        due.is("4 of several slots the lowest examiner", place(z, 2), 2);
        due.is("4 then the next slot", place(z, 3), 10);
        due.is("4 then the next slot's last examiner", place(z, 5), 12);
        due.is("4 then the afternoon", place(z, 6), 20);
    }

    /** Who asks later waits behind, but gets what those ahead can't have. */
    private static void askInOrder() {
        TestSlots x = office(1, 3);
        x.ask(0);
        x.test(0, false);
        due.is("4 the same examiner is not had again", x.ask(0), NONE);
        due.is("4 another pupil passes by", x.ask(1), 0);
        due.is("4 still first", x.pupil(0, 9), 0);
        x.set(1, 0);
        due.is("4 set gives nothing out", x.pupil(0, 0), 1);
        due.is("4 gives out to all", x.ask(2), 0);
        due.is("4 the first one's slot", place(x, 0), 300);
        due.is("4 the last one's slot", place(x, 2), 20);
    }

    private static void quit() {
        TestSlots x = office(1, 12);
        for (int i = 0; i < 9; i++) {
            x.ask(i);
        }
        due.is("5 today is lost", x.quit(0), 0);
        due.is("5 lost fee", x.pupil(0, 10), 50);
        due.is("5 idle", x.pupil(0, 0), 0);
        due.is("5 free again", x.slot(0, 0, 0), NONE);
        due.is("5 in one day is lost", x.quit(4), 0);
        x.set(3, 80);
        due.is("5 in two days is paid back, as paid", x.quit(8), 50);
        due.is("5 nothing paid", x.pupil(8, 10), 0);
        due.is("5 money", x.count(11), 8 * 50);
        x.set(2, 0);
        due.is("5 today, with 0 days", x.quit(1), 50);
        x.set(2, 1);
        due.is("5 today, with 1 day", x.quit(2), 0);
        due.is("5 tomorrow, with 1 day", x.quit(5), 50);
        due.refuses(x, "5 idle", STATE, () -> x.quit(0));
        due.refuses(x, "5 no such pupil", BOUNDS, () -> x.quit(12));
        due.refuses(x, "5 pupil below 0", BOUNDS, () -> x.quit(-1));
        x.test(3, true);
        due.refuses(x, "5 passed", STATE, () -> x.quit(3));

        TestSlots y = office(0, 1);
        y.ask(0);
        y.set(2, 9);
        y.set(3, 7);
        due.is("5 waiting", y.quit(0), 50);
        due.is("5 waits no more", y.pupil(0, 0), 0);
        due.is("5 paid back", y.pupil(0, 10), 0);
        y.addExaminer();
        due.is("5 gets none", y.pupil(0, 0), 0);
        due.is("5 asks anew", y.ask(0), 0);
        due.is("5 pays anew", y.pupil(0, 10), 7);
    }

    private static void quitGivesOut() {
        TestSlots x = crowdedLastDay();
        due.is("5 the last slot", place(x, 5), 931);
        due.is("5 waits", x.pupil(6, 9), 0);
        due.is("5 waits behind", x.pupil(7, 9), 1);
        due.is("5 back to the full", x.quit(3), 50);
        due.is("5 the slot goes to who waits first", place(x, 6), 921);
        due.is("5 moves up", x.pupil(7, 9), 0);
        due.is("5 giving waiting up", x.quit(7), 50);
        due.is("5 no place", x.pupil(7, 9), NONE);
        x.ask(3);
        x.ask(7);
        due.is("5 begins to wait anew, ahead", x.pupil(3, 9), 0);
        due.is("5 begins to wait anew, behind", x.pupil(7, 9), 1);
    }

    private static void cancel() {
        TestSlots x = office(2, 4);
        for (int i = 0; i < 4; i++) {
            x.ask(i);
        }
        due.is("6 moved", x.cancel(0, 0), 2);
        due.is("6 closed", x.slot(0, 0, 0), CLOSED);
        due.is("6 closed too", x.slot(0, 0, 1), CLOSED);
        due.is("6 afternoon stays", x.slot(0, 0, 2), 0);
        due.is("6 the slot 0 first", place(x, 0), 20);
        due.is("6 then the slot 1", place(x, 2), 21);
        due.is("6 others stay", place(x, 1), 1);
        due.is("6 moved once", x.pupil(0, 8), 1);
        due.is("6 does not pay anew", x.pupil(0, 10), 50);
        due.is("6 mornings", x.examiner(0, 4), 1);
        due.is("6 again moves none", x.cancel(0, 0), 0);
        due.is("6 mornings again", x.examiner(0, 4), 2);
        due.is("6 the last day", x.cancel(1, 9), 0);
        due.is("6 the last day is closed", x.slot(1, 9, 1), CLOSED);
        due.is("6 its afternoon is not", x.slot(1, 9, 2), NONE);
        due.is("6 not the day before", x.slot(1, 8, 0), NONE);
        due.refuses(x, "6 days 10", ARGUMENT, () -> x.cancel(0, 10));
        due.refuses(x, "6 days -1", ARGUMENT, () -> x.cancel(0, -1));
        due.refuses(x, "6 no such examiner", BOUNDS, () -> x.cancel(2, 0));
        due.refuses(x, "6 examiner below 0", BOUNDS, () -> x.cancel(-1, 0));
        due.refuses(x, "6 both wrong", BOUNDS, () -> x.cancel(4, 10));

        TestSlots y = office(1, 2);
        y.ask(0);
        y.ask(1);
        y.test(0, true);
        due.is("6 tested pupils are not moved", y.cancel(0, 0), 1);
        due.is("6 passed stays", y.pupil(0, 8), 0);
        due.is("6 the other one", place(y, 1), 20);
        y.set(3, 9);
        y.set(2, 0);
        due.is("6 the fee stays that of the asking", y.quit(1), 50);
    }

    private static void cancelOrder() {
        TestSlots x = crowdedLastDay();
        due.is("6 two moved, none has a slot", x.cancel(0, 9), 2);
        due.is("6 moved come first, slot 0", x.pupil(0, 9), 0);
        due.is("6 moved come first, slot 1", x.pupil(1, 9), 1);
        due.is("6 then who waited before", x.pupil(6, 9), 2);
        due.is("6 then who waited next", x.pupil(7, 9), 3);
        x.quit(5);
        due.is("6 slot for the first", place(x, 0), 931);
        x.quit(0);
        due.is("6 slot for the second", place(x, 1), 931);
        x.ask(0);
        due.is("6 asked later, but moved more often", x.pupil(0, 9), 0);
        x.quit(2);
        x.quit(3);
        due.is("6 the moved one is served first", place(x, 0), 920);
        due.is("6 then who waited longest", place(x, 6), 921);
        due.is("6 one waits", x.pupil(7, 9), 0);
    }

    private static void test() {
        TestSlots x = office(1, 5);
        for (int i = 0; i < 5; i++) {
            x.ask(i);
        }
        due.is("7 the first route", x.test(0, true), 0);
        due.is("7 passed", x.pupil(0, 0), 3);
        due.is("7 closed behind it", x.slot(0, 0, 0), CLOSED);
        due.is("7 passed: none failed", x.pupil(0, 1), 0);
        due.is("7 passed: from the same day on", x.pupil(0, 2), 0);
        due.is("7 the next route", x.test(1, false), 1);
        due.is("7 idle", x.pupil(1, 0), 0);
        due.is("7 failed", x.pupil(1, 1), 1);
        due.is("7 may be tested later", x.pupil(1, 2), 3);
        due.is("7 route", x.pupil(1, 3), 1);
        due.is("7 examiner", x.pupil(1, 4), 0);
        due.is("7 closed behind failing", x.slot(0, 0, 1), CLOSED);
        due.is("7 fee is not paid back", x.pupil(1, 10), 50);
        due.refuses(x, "7 has passed", STATE, () -> x.test(0, true));
        due.refuses(x, "7 is idle", STATE, () -> x.test(1, true));
        due.refuses(x, "7 slot of tomorrow", STATE, () -> x.test(4, true));
        due.refuses(x, "7 no such pupil", BOUNDS, () -> x.test(5, true));
        due.refuses(x, "7 pupil below 0", BOUNDS, () -> x.test(-1, false));
        x.next();
        due.is("7 today now", x.test(4, true), 2);

        TestSlots y = office(1, 2);
        y.ask(0);
        y.test(0, false);
        y.ask(0);
        y.ask(1);
        y.set(1, 0);
        y.set(0, 0);
        y.test(1, false);
        due.is("7 no slots are given out", y.pupil(0, 0), 1);
        due.is("7 a wait of no days", y.pupil(1, 2), 0);
    }

    private static void testWaits() {
        TestSlots x = office(1, 1);
        x.set(1, 0);
        x.set(0, 19);
        for (int times = 1; times <= 5; times++) {
            x.ask(0);
            for (int i = 0; i < 70 && x.pupil(0, 5) != 0; i++) {
                x.next();
            }
            x.test(0, false);
            due.is("7 failed so often", x.pupil(0, 1), times);
            due.is("7 wait " + times, x.pupil(0, 2) - x.count(0), Math.min(60, 19 * times));
        }
    }

    private static void testRoutes() {
        TestSlots x = office(2, 8);
        x.set(0, 0);
        for (int i = 0; i < 8; i++) {
            x.ask(i);
        }
        for (int i = 0; i < 8; i += 2) {
            due.is("7 routes in turn", x.test(i, false), i / 2);
        }
        x.next();
        int[] others = {1, 0, 3, 2};
        for (int i = 0; i < 4; i++) {
            x.ask(2 * i);
            due.is("7 another examiner", x.pupil(2 * i, 7), 1);
            due.is("7 not the latest route", x.test(2 * i, false), others[i]);
        }
        x.ask(0);
        due.is("7 back with the first examiner", x.pupil(0, 7), 0);
        due.is("7 the latest test's route alone is not had", x.test(0, false), 0);
        x.ask(2);
        due.is("7 least often, of several the lowest", x.test(2, false), 1);
        due.is("7 tests on the route 0", x.examiner(0, 5), 2);
        due.is("7 tests on the route 3", x.examiner(0, 8), 1);
    }

    private static void next() {
        TestSlots x = office(2, 9);
        for (int i = 0; i < 9; i++) {
            x.ask(i);
        }
        x.cancel(1, 9);
        x.test(0, true);
        x.quit(1);
        due.is("8 stayed away", x.next(), 6);
        due.is("8 the day", x.count(0), 1);
        due.is("8 stayed away so far", x.count(10), 6);
        due.is("8 idle", x.pupil(2, 0), 0);
        due.is("8 the fee is lost", x.pupil(2, 10), 50);
        due.is("8 not failed", x.pupil(2, 1), 0);
        due.is("8 may be tested as before", x.pupil(2, 2), 0);
        due.is("8 passed stays so", x.pupil(0, 0), 3);
        due.is("8 the slot is of today now", place(x, 8), 0);
        due.is("8 the closed morning is nearer", x.slot(1, 8, 0), CLOSED);
        due.is("8 the new day is free", x.slot(1, 9, 0), NONE);
        due.is("8 closed slots of yesterday are gone", x.examiner(0, 3), 0);
        due.is("8 one again", x.next(), 1);
        due.is("8 none", x.next(), 0);
        due.is("8 stayed away in all", x.count(10), 7);

        TestSlots y = crowdedLastDay();
        y.next();
        due.is("8 the new day's slots are given out", place(y, 6), 900);
        due.is("8 also to the second", place(y, 7), 901);
        due.is("8 nobody waits", y.count(4), 0);

        TestSlots z = office(0, 1);
        z.ask(0);
        due.is("8 who waits does not stay away", z.next(), 0);
        due.is("8 waits on", z.pupil(0, 0), 1);
    }

    /** No 512 calls come this far; the object keeps to the promise all the same. */
    private static void lastDay() {
        TestSlots x = office(1, 1);
        goOn(x, 9998);
        due.is("8 up to the last day", x.next(), 0);
        due.is("8 the last day", x.count(0), 9999);
        due.refuses(x, "8 above 9999", STATE, () -> x.next());
        due.is("8 as an order", runText(x, "ask0;next;ask0"), 1);
        due.is("8 still the last day", x.count(0), 9999);
    }

    private static void set() {
        TestSlots x = office(1, 1);
        int[] first = {3, 1, 2, 50};
        int[] highest = {20, 1, 9, 999};
        for (int i = 0; i < 4; i++) {
            int setting = i;
            int above = highest[i] + 1;
            due.is("9 previous", x.set(i, highest[i]), first[i]);
            due.is("9 highest", x.setting(i), highest[i]);
            due.refuses(x, "9 above", ARGUMENT, () -> x.set(setting, above));
            due.refuses(x, "9 below", ARGUMENT, () -> x.set(setting, -1));
            due.is("9 lowest", x.set(i, 0), highest[i]);
            due.is("9 is lowest", x.setting(i), 0);
        }
        due.refuses(x, "9 setting 4", BOUNDS, () -> x.set(4, 0));
        due.refuses(x, "9 setting -1", BOUNDS, () -> x.set(-1, 0));
        due.refuses(x, "9 both wrong", BOUNDS, () -> x.set(4, -1));
        due.is("9 others stay", x.setting(0), 0);
        TestSlots y = office(1, 1);
        due.is("9 the same value", y.set(0, 3), 3);
        due.is("9 is saved also if nothing changes", y.count(14), 3);
    }

    private static void append() {
        TestSlots x = new TestSlots();
        due.refuses(x, "10 code 32", ARGUMENT, () -> x.append(32));
        due.refuses(x, "10 code 127", ARGUMENT, () -> x.append(127));
        due.refuses(x, "10 code -1", ARGUMENT, () -> x.append(-1));
        due.refuses(x, "10 code 65536 + 97", ARGUMENT, () -> x.append(65536 + 97));
        due.is("10 code 33", x.append(33), 1);
        due.is("10 code 126", x.append(126), 2);
        for (int i = 3; i <= 60; i++) {
            due.is("10 length", x.append('a'), i);
        }
        due.refuses(x, "10 full", STATE, () -> x.append('a'));
        due.refuses(x, "10 full, and a wrong code", ARGUMENT, () -> x.append(32));
        due.is("10 is not undoable", x.count(14), 0);
        due.is("10 all are kept", x.clearBuffer(), 60);
    }

    private static void clearBuffer() {
        TestSlots x = new TestSlots();
        write(x, "ask0");
        due.is("11 length", x.clearBuffer(), 4);
        due.is("11 empty", x.clearBuffer(), 0);
        due.is("11 is not undoable", x.count(14), 0);
        due.is("11 anew", x.append('q'), 1);
        due.is("11 only the new one", x.firstError(), 1);
    }

    private static void firstErrorOf(String orders, int place) {
        TestSlots x = office(1, 1);
        write(x, orders);
        long before = x.digest();
        due.is("12 " + orders, x.firstError(), place);
        due.is("12 again " + orders, x.firstError(), place);
        due.is("12 changes nothing " + orders, x.digest(), before);
    }

    private static void firstError() {
        String[] fine = {"", "a", "as", "ask", "ask0", "ask9", "ask1", "ask10", "ask11", "ask11;", "quit", "quit0",
            "pass7", "fail11", "ill", "ill3", "ill3@", "ill3@9", "ill0@0;", "next", "next;", "next;next", "n", "nex",
            "ask1;quit10;pass2;fail3;ill2@5;next;ask0;next;ill1@1;ask11;i",
            "next;next;next;next;next;next;next;next;next;next;next;next;"};
        for (String orders : fine) {
            firstErrorOf(orders, orders.length());
        }
        TestSlots x = office(1, 2);
        write(x, "ask11");
        write(x, "ask1");
        due.is("12 what stood in the buffer before does not count", x.firstError(), 4);
        due.is("12 nor is it carried out", x.run() + x.pupil(1, 0), 1 + 2);
        firstErrorOf("b", 0);
        firstErrorOf(";", 0);
        firstErrorOf("0", 0);
        firstErrorOf("Ask0", 0);
        firstErrorOf("aks0", 1);
        firstErrorOf("ask;", 3);
        firstErrorOf("ask-1", 3);
        firstErrorOf("ask12", 4);
        firstErrorOf("ask00", 4);
        firstErrorOf("ask01", 4);
        firstErrorOf("ask20", 4);
        firstErrorOf("ask110", 5);
        firstErrorOf("ask1@", 4);
        firstErrorOf("ask1,", 4);
        firstErrorOf("quip", 3);
        firstErrorOf("paas", 2);
        firstErrorOf("fall", 2);
        firstErrorOf("ill4", 3);
        firstErrorOf("ill10", 4);
        firstErrorOf("ill0;", 4);
        firstErrorOf("ill0@;", 5);
        firstErrorOf("ill0@10", 6);
        firstErrorOf("ill0@00", 6);
        firstErrorOf("ill0@@", 5);
        firstErrorOf("next0", 4);
        firstErrorOf("nextnext", 4);
        firstErrorOf("next;;", 5);
        firstErrorOf("next;a;", 6);
        firstErrorOf("ask0;ask5x", 9);
        firstErrorOf("next;next;next;next;next;next;next;next;next;next;next;next!", 59);
    }

    private static void run() {
        TestSlots x = office(2, 3);
        for (String orders : new String[] {"", "ask", "nex", "ask0;nex", "ask0;", "x", "ask0;ask", "ill0", "ill0@", "next;next1", ";",
            "next;next;next;next;next;next;next;next;next;next;next;next;"}) {
            write(x, orders);
            due.refuses(x, "13 " + orders, ARGUMENT, () -> x.run());
            due.is("13 keeps the buffer", x.clearBuffer(), orders.length());
        }
        int saved = x.count(14);
        due.is("13 all orders", runText(x, "ask0;ask1;ask2;pass0;fail1;ill0@0;quit2;next"), 8);
        due.is("13 clears the buffer", x.clearBuffer(), 0);
        due.is("13 passed", x.pupil(0, 0), 3);
        due.is("13 failed", x.pupil(1, 1), 1);
        due.is("13 moved", x.pupil(2, 8), 1);
        due.is("13 quit", x.pupil(2, 0), 0);
        due.is("13 the day", x.count(0), 1);
        due.is("13 saves one state", x.count(14), saved + 1);
        x.undo();
        due.is("13 undone as one call", x.count(0) + x.count(7) + x.count(9) + x.count(11), 0);
        due.is("13 the longest text", runText(x, "next;next;next;next;next;next;next;next;next;next;next;ask1"), 12);
        due.is("13 days and a slot", x.count(0) * 10 + x.pupil(1, 0), 112);
        due.is("13 the morning of the day", runText(x, "ill1@7"), 1);
        due.is("13 is closed", x.slot(1, 7, 1), CLOSED);
    }

    private static void runStops() {
        String[] stops = {"ask2", "ask0", "quit1", "quit11", "pass1", "pass0", "fail1", "fail9", "ill1@0"};
        for (String stop : stops) {
            TestSlots x = office(1, 2);
            x.set(0, 0);
            goOn(x, 1);
            x.ask(0);
            x.cancel(0, 0);
            x.ask(1);
            x.test(1, true);
            if (stop.equals("pass0")) {
                x.quit(0);
            }
            int saved = x.count(14);
            due.is("13 stops at " + stop, runText(x, "ill0@4;" + stop + ";next"), 1);
            due.is("13 nothing behind it", x.count(0), 1);
            due.is("13 saved all the same", x.count(14), Math.min(6, saved + 1));
            due.is("13 stops at once at " + stop, runText(x, stop), 0);
            due.is("13 clears the buffer", x.clearBuffer(), 0);
        }
        TestSlots z = office(0, 12);
        due.is("13 waiting is no stop", runText(z, "ask10;ask11;quit10;next"), 4);
        due.is("13 two digits", z.pupil(10, 0) * 10 + z.pupil(11, 0), 1);
        z.addExaminer();
        due.is("13 two digits tested", runText(z, "fail11"), 1);
        due.is("13 who was tested", z.pupil(11, 1), 1);
        TestSlots y = new TestSlots();
        due.is("13 none carried out", runText(y, "ask0;next"), 0);
        due.is("13 undoable also then", y.count(14), 1);
    }

    private static void undo() {
        TestSlots x = new TestSlots();
        due.refuses(x, "14 none", STATE, () -> x.undo());
        long[] digests = new long[20];
        for (int i = 0; i < 20; i++) {
            digests[i] = seen(x);
            undoableCall(x, i);
        }
        due.is("14 six at most", x.count(14), 6);
        write(x, "ill");
        for (int left = 5; left >= 0; left--) {
            due.is("14 left", x.undo(), left);
            due.is("14 the state of before call " + (14 + left), seen(x), digests[14 + left]);
        }
        due.refuses(x, "14 no more", STATE, () -> x.undo());
        due.is("14 the buffer stays", x.clearBuffer(), 3);

        for (int i = 0; i < 20; i++) {
            TestSlots y = new TestSlots();
            for (int j = 0; j < i; j++) {
                undoableCall(y, j);
            }
            long before = seen(y);
            int saved = y.count(14);
            undoableCall(y, i);
            due.is("14 saved by call " + i, y.count(14), Math.min(6, saved + 1));
            due.is("14 undo of call " + i, y.undo(), Math.min(5, saved));
            due.is("14 restored behind call " + i, seen(y), before);
        }
    }

    /** What the looks don't tell at once: the fee that was paid, and who began to wait earlier. */
    private static void undoHidden() {
        TestSlots x = office(0, 3);
        x.ask(0);
        x.ask(1);
        x.quit(0);
        x.set(3, 70);
        x.ask(0);
        due.is("14 waits behind", x.pupil(0, 9), 1);
        x.undo();
        x.undo();
        x.undo();
        due.is("14 waits ahead again", x.pupil(0, 9), 0);
        x.ask(2);
        due.is("14 who asks now waits behind", x.pupil(2, 9), 2);
        due.is("14 the fee that was paid then", x.quit(0), 50);

        TestSlots y = crowdedLastDay();
        long before = seen(y);
        y.ifCancelled(0, 9, 0);
        y.quit(6);
        y.ask(6);
        due.is("14 began anew", y.pupil(6, 9), 1);
        y.undo();
        y.undo();
        due.is("14 as before", seen(y), before);
    }

    private static void pupil() {
        TestSlots x = office(2, 3);
        x.ask(2);
        x.ask(0);
        int[] withSlot = {2, 0, 0, NONE, NONE, 0, 0, 1, 0, NONE, 50};
        for (int what = 0; what <= 10; what++) {
            due.is("15 with a slot, " + what, x.pupil(0, what), withSlot[what]);
        }
        x.cancel(1, 0);
        x.next();
        x.ask(0);
        x.ask(1);
        x.test(1, false);
        x.ask(1);
        int[] failed = {2, 1, 4, 0, 1, 3, 0, 0, 0, NONE, 100};
        for (int what = 0; what <= 10; what++) {
            due.is("15 failed, " + what, x.pupil(1, what), failed[what]);
        }
        due.is("15 moved", x.pupil(0, 8), 1);
        due.is("15 the slot", x.pupil(0, 6), 0);
        due.refuses(x, "15 what 11", ARGUMENT, () -> x.pupil(0, 11));
        due.refuses(x, "15 what -1", ARGUMENT, () -> x.pupil(0, -1));
        due.refuses(x, "15 pupil 3", BOUNDS, () -> x.pupil(3, 0));
        due.refuses(x, "15 pupil -1", BOUNDS, () -> x.pupil(-1, 0));
        due.refuses(x, "15 both wrong", BOUNDS, () -> x.pupil(12, 11));
    }

    private static void examiner() {
        TestSlots x = office(2, 5);
        for (int i = 0; i < 5; i++) {
            x.ask(i);
        }
        x.test(0, true);
        x.test(2, false);
        x.test(4, true);
        x.cancel(0, 1);
        x.cancel(0, 1);
        x.cancel(0, 0);
        int[] first = {3, 2, 40 - 3 - 2, 5, 3, 1, 1, 1, 0};
        int[] second = {0, 0, 38, 0, 0, 0, 0, 0, 0};
        for (int what = 0; what <= 8; what++) {
            due.is("16 the first, " + what, x.examiner(0, what), first[what]);
            due.is("16 the second, " + what, x.examiner(1, what), second[what]);
        }
        x.next();
        due.is("16 closed ones in the diary alone", x.examiner(0, 3), 2);
        due.is("16 free ones in the diary alone", x.examiner(0, 2), 38);
        due.refuses(x, "16 what 9", ARGUMENT, () -> x.examiner(0, 9));
        due.refuses(x, "16 what -1", ARGUMENT, () -> x.examiner(0, -1));
        due.refuses(x, "16 examiner 2", BOUNDS, () -> x.examiner(2, 0));
        due.refuses(x, "16 examiner -1", BOUNDS, () -> x.examiner(-1, 0));
        due.refuses(x, "16 both wrong", BOUNDS, () -> x.examiner(4, 9));
    }

    private static void slot() {
        TestSlots x = office(2, 2);
        x.ask(1);
        x.ask(0);
        x.cancel(1, 9);
        due.is("17 of a pupil", x.slot(0, 0, 0), 1);
        due.is("17 of another pupil", x.slot(1, 0, 0), 0);
        due.is("17 free", x.slot(0, 0, 3), NONE);
        due.is("17 closed", x.slot(1, 9, 1), CLOSED);
        due.is("17 free behind the morning", x.slot(1, 9, 3), NONE);
        due.refuses(x, "17 days 10", ARGUMENT, () -> x.slot(0, 10, 0));
        due.refuses(x, "17 days -1", ARGUMENT, () -> x.slot(0, -1, 0));
        due.refuses(x, "17 slot 4", ARGUMENT, () -> x.slot(0, 0, 4));
        due.refuses(x, "17 slot -1", ARGUMENT, () -> x.slot(0, 1, -1));
        due.refuses(x, "17 examiner 2", BOUNDS, () -> x.slot(2, 0, 0));
        due.refuses(x, "17 examiner -1", BOUNDS, () -> x.slot(-1, 0, 0));
        due.refuses(x, "17 all wrong", BOUNDS, () -> x.slot(4, 10, 4));
    }

    private static void count() {
        TestSlots x = crowdedLastDay();
        x.addPupil();
        x.addPupil();
        x.addPupil();
        x.next();
        x.ask(8);
        x.ask(9);
        x.test(8, true);
        x.next();
        x.cancel(0, 7);
        int[] all = {2, 2, 11, 2, 0, 8, 1, 9, 1, 2, 1, 17 * 50 + 50, 0, 0, 6};
        all[12] = x.examiner(0, 2) + x.examiner(1, 2);
        for (int pupil = 0; pupil < 8; pupil++) {
            all[13] += x.pupil(pupil, 5);
        }
        for (int what = 0; what <= 14; what++) {
            due.is("18 count " + what, x.count(what), all[what]);
        }
        due.is("18 free slots", x.count(12), 80 - 8 - 2 - 2);
        due.is("18 days to the slots", x.count(13), 4 * 7 + 4 * 8);
        due.is("18 free slots of four examiners", office(4, 0).count(12), 160);
        due.refuses(x, "18 what 15", ARGUMENT, () -> x.count(15));
        due.refuses(x, "18 what -1", ARGUMENT, () -> x.count(-1));
    }

    private static void setting() {
        TestSlots x = new TestSlots();
        x.set(0, 20);
        x.set(3, 0);
        due.is("19 setting 0", x.setting(0), 20);
        due.is("19 setting 1", x.setting(1), 1);
        due.is("19 setting 2", x.setting(2), 2);
        due.is("19 setting 3", x.setting(3), 0);
        due.refuses(x, "19 setting 4", BOUNDS, () -> x.setting(4));
        due.refuses(x, "19 setting -1", BOUNDS, () -> x.setting(-1));
    }

    private static void earliestIs(TestSlots x, String call, int pupil, int days, int slot, int examiner) {
        due.is("20 days, " + call, x.earliest(pupil, 0), days);
        due.is("20 slot, " + call, x.earliest(pupil, 1), slot);
        due.is("20 examiner, " + call, x.earliest(pupil, 2), examiner);
    }

    private static void earliest() {
        TestSlots x = office(0, 4);
        earliestIs(x, "without examiners", 0, NONE, NONE, NONE);
        x.addExaminer();
        x.addExaminer();
        earliestIs(x, "at first", 3, 0, 0, 0);
        x.ask(0);
        earliestIs(x, "whatever the pupil does now", 0, 0, 0, 1);
        x.test(0, false);
        earliestIs(x, "not ahead of the day, not the same examiner", 0, 3, 0, 1);
        x.cancel(1, 3);
        earliestIs(x, "behind the morning", 0, 3, 2, 1);
        x.set(1, 0);
        earliestIs(x, "the same examiner can be had", 0, 3, 0, 0);
        x.set(0, 20);
        x.ask(1);
        x.test(1, false);
        earliestIs(x, "behind the diary", 1, NONE, NONE, NONE);
        x.cancel(0, 0);
        x.ask(2);
        x.test(2, true);
        earliestIs(x, "who passed", 2, 0, 2, 0);
        goOn(x, 11);
        earliestIs(x, "in the diary now", 1, 9, 0, 0);
        due.refuses(x, "20 what 3", ARGUMENT, () -> x.earliest(0, 3));
        due.refuses(x, "20 what -1", ARGUMENT, () -> x.earliest(0, -1));
        due.refuses(x, "20 pupil 4", BOUNDS, () -> x.earliest(4, 0));
        due.refuses(x, "20 pupil -1", BOUNDS, () -> x.earliest(-1, 0));
        due.refuses(x, "20 both wrong", BOUNDS, () -> x.earliest(12, 3));
    }

    private static void ifCancelledIs(TestSlots x, int examiner, int days, int moved, int waiting, int later) {
        long before = x.digest();
        due.is("21 moved", x.ifCancelled(examiner, days, 0), moved);
        due.is("21 waiting", x.ifCancelled(examiner, days, 1), waiting);
        due.is("21 later", x.ifCancelled(examiner, days, 2), later);
        due.is("21 changes nothing", x.digest(), before);
    }

    private static void ifCancelled() {
        TestSlots x = office(1, 12);
        for (int i = 0; i < 12; i++) {
            x.ask(i);
        }
        ifCancelledIs(x, 0, 0, 2, 0, 1006);
        ifCancelledIs(x, 0, 2, 2, 0, 1002);
        ifCancelledIs(x, 0, 3, 0, 0, 1000);
        ifCancelledIs(x, 0, 9, 0, 0, 1000);
        x.quit(1);
        ifCancelledIs(x, 0, 0, 1, 0, 1003);
        ifCancelledIs(x, 0, 1, 2, 0, 1001);
        x.quit(3);
        ifCancelledIs(x, 0, 1, 2, 0, 998);

        TestSlots y = crowdedLastDay();
        ifCancelledIs(y, 0, 9, 2, 2, 1000);
        ifCancelledIs(y, 1, 9, 0, 0, 1000);
        y.quit(7);
        y.quit(6);
        y.quit(4);
        ifCancelledIs(y, 0, 9, 2, 1, 1000);

        // 6 asked anew, so 7 waits ahead of it; the one that is moved comes ahead of both
        y.ask(4);
        y.ask(7);
        y.ask(6);
        ifCancelledIs(y, 0, 9, 2, 2, 1000);
        y.cancel(0, 9);
        y.quit(2);
        due.is("21 the moved one got the slot", y.pupil(0, 6), 2);
        due.refuses(y, "21 days 10", ARGUMENT, () -> y.ifCancelled(0, 10, 0));
        due.refuses(y, "21 days -1", ARGUMENT, () -> y.ifCancelled(0, -1, 0));
        due.refuses(y, "21 what 3", ARGUMENT, () -> y.ifCancelled(0, 0, 3));
        due.refuses(y, "21 what -1", ARGUMENT, () -> y.ifCancelled(0, 0, -1));
        due.refuses(y, "21 examiner 2", BOUNDS, () -> y.ifCancelled(2, 0, 0));
        due.refuses(y, "21 examiner -1", BOUNDS, () -> y.ifCancelled(-1, 0, 0));
        due.refuses(y, "21 all wrong", BOUNDS, () -> y.ifCancelled(4, 10, 3));
    }

    private static void ifTested() {
        TestSlots x = office(2, 3);
        due.is("22 at first", x.ifTested(2, 1), 0);
        x.ask(0);
        x.test(0, false);
        due.is("22 not the latest route", x.ifTested(0, 1), 1);
        due.is("22 not the latest route, same examiner", x.ifTested(0, 0), 1);
        due.is("22 the least often", x.ifTested(1, 0), 1);
        due.is("22 of the other examiner", x.ifTested(1, 1), 0);
        due.is("22 changes nothing", x.examiner(0, 0), 1);
        due.refuses(x, "22 pupil 3", BOUNDS, () -> x.ifTested(3, 0));
        due.refuses(x, "22 pupil -1", BOUNDS, () -> x.ifTested(-1, 0));
        due.refuses(x, "22 examiner 2", BOUNDS, () -> x.ifTested(0, 2));
        due.refuses(x, "22 examiner -1", BOUNDS, () -> x.ifTested(0, -1));
    }

    private static void couldHave() {
        TestSlots x = office(0, 2);
        due.is("23 without examiners", x.couldHave(0), 0);
        x.addExaminer();
        due.is("23 two idle ones", x.couldHave(0), 2);
        for (int i = 2; i < 12; i++) {
            x.addPupil();
        }
        due.is("23 no more than slots", x.couldHave(9), 4);
        x.cancel(0, 9);
        due.is("23 closed ones are not had", x.couldHave(9), 2);
        x.ask(0);
        due.is("23 those of pupils are not had", x.couldHave(0), 3);
        for (int i = 1; i < 10; i++) {
            x.ask(i);
        }
        due.is("23 two are without a slot", x.couldHave(5), 2);
        x.test(0, true);
        due.is("23 passed ones do not count", x.couldHave(5), 2);
        x.test(1, false);
        due.is("23 failed ones not with the same examiner", x.couldHave(5), 2);
        x.set(1, 0);
        due.is("23 not ahead of the day", x.couldHave(2), 2);
        due.is("23 from the day on", x.couldHave(3), 3);
        x.ask(1);
        x.quit(1);
        due.is("23 idle again", x.couldHave(3), 3);
        due.refuses(x, "23 days 10", ARGUMENT, () -> x.couldHave(10));
        due.refuses(x, "23 days -1", ARGUMENT, () -> x.couldHave(-1));
    }

    private static void couldHaveByExaminers() {
        TestSlots x = office(2, 12);
        x.set(0, 0);
        for (int i = 0; i < 12; i++) {
            x.ask(i);
        }
        for (int i = 0; i < 8; i++) {
            x.test(i, i % 2 == 1);
        }
        due.is("23 no slot is left", x.couldHave(0), 0);
        due.is("23 the other examiner's slots alone", x.couldHave(1), 2);
        due.is("23 the other examiner's whole day", x.couldHave(2), 4);
        x.cancel(1, 2);
        due.is("23 the other examiner's afternoon", x.couldHave(2), 2);
        x.set(1, 0);
        due.is("23 both examiners", x.couldHave(2), 4);
        x.set(1, 1);
        x.quit(8);
        x.quit(9);
        due.is("23 others have the rest", x.couldHave(2), 4);
        x.addExaminer();
        due.is("23 a third examiner", x.couldHave(2), 6);
        x.set(0, 20);
        x.quit(10);
        due.is("23 all who look for a slot", x.couldHave(3), 7);

        TestSlots z = office(4, 3);
        due.is("23 with four examiners, no more than pupils", z.couldHave(4), 3);
        z.ask(0);
        due.is("23 with four examiners, one has a slot", z.couldHave(4), 2);
        z.test(0, false);
        due.is("23 with four examiners, one may not come yet", z.couldHave(2), 2);

        for (int i = 0; i < 4; i++) {
            z.cancel(i, 0);
        }
        for (int i = 3; i < 12; i++) {
            z.addPupil();
            z.ask(i - 2);
        }
        due.is("23 with four examiners, some have slots", z.couldHave(0), 0);
        z.quit(1);
        z.quit(4);
        z.quit(7);
        due.is("23 with four examiners, no more than slots", z.couldHave(0), 3);

        TestSlots y = crowdedLastDay();
        y.quit(0);
        due.is("23 waiting ones count", y.couldHave(9), 0);
        y.quit(6);
        y.quit(7);
        due.is("23 one slot is left", y.couldHave(9), 1);
    }

    private static void passedShare() {
        TestSlots x = office(2, 7);
        due.is("24 without tests", x.passedShare(), 1.0);
        for (int i = 0; i < 7; i++) {
            x.ask(i);
        }
        x.test(0, false);
        due.is("24 none passed", x.passedShare(), 0.0);
        x.test(1, true);
        due.is("24 a half", x.passedShare(), 0.5);
        x.test(2, false);
        due.is("24 a third", x.passedShare(), 1.0 / 3.0);
        x.test(3, true);
        x.test(4, true);
        due.is("24 three fifths", x.passedShare(), 3.0 / 5.0);
        x.test(5, true);
        x.test(6, true);
        due.is("24 five sevenths", x.passedShare(), 5.0 / 7.0);
        TestSlots y = office(1, 1);
        y.ask(0);
        y.test(0, true);
        due.is("24 all", y.passedShare(), 1.0);
    }

    private static void digest() {
        TestSlots x = new TestSlots();
        digestIs(x, "");
        for (int i = 0; i < 20; i++) {
            undoableCall(x, i);
            digestIs(x, "");
        }
        write(x, "fail~!");
        digestIs(x, "fail~!");
        x.undo();
        digestIs(x, "fail~!");
        TestSlots y = office(2, 0);
        digestIs(y, "");
        TestSlots z = office(4, 12);
        digestIs(z, "");
        for (int i = 0; i < 12; i++) {
            z.ask(i);
            z.test(i, i % 4 == 1);
            digestIs(z, "");
        }
        z.set(0, 0);
        z.next();
        digestIs(z, "");
        write(z, "next;next;next;next;next;next;next;next;next;next;next;next!");
        digestIs(z, "next;next;next;next;next;next;next;next;next;next;next;next!");
    }

    private static void digestIs(TestSlots x, String buffer) {
        long hash = digestOf(x, buffer);
        due.is("25 digest", x.digest(), hash);
        due.is("25 digest again", x.digest(), hash);
    }
}
