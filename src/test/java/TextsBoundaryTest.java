import java.util.ArrayList;
import java.util.List;
import java.util.Set;
import java.util.TreeSet;

/** The edges that the document names for texts: the buffer, syntax errors, orders, and undo. */
public final class TextsBoundaryTest extends Offices {
    private static final String SIXTY = "next;next;next;next;next;next;next;next;next;next;next;ask11";

    public static void main(String[] args) {
        Sentences.lookAt(TextsBoundaryTest.class, due);
    }

    /** All orders that there are, without the ";" between them. */
    private static Set<String> allOrders() {
        Set<String> all = new TreeSet<>();
        for (int pupil = 0; pupil <= 11; pupil++) {
            for (String word : new String[] {"ask", "quit", "pass", "fail"}) {
                all.add(word + pupil);
            }
        }
        for (int i = 0; i < 40; i++) {
            all.add("ill" + i / 10 + "@" + i % 10);
        }
        all.add("next");
        return all;
    }

    private static void firstErrorOf(String text, int place) {
        TestSlots x = new TestSlots();
        write(x, text);
        due.is("firstError of " + text, x.firstError(), place);
    }

    private static void fits(String text) {
        firstErrorOf(text, text.length());
    }

    private static boolean isRefused(String text) {
        TestSlots x = new TestSlots();
        write(x, text);
        try {
            x.run();
            return false;
        } catch (IllegalArgumentException e) {
            return true;
        }
    }

    // ---- the buffer

    @Says("The buffer has at most 60 characters.")
    static void sixtyCharactersAtMost() {
        TestSlots x = new TestSlots();
        for (int i = 1; i <= 60; i++) {
            due.is("length", x.append('n'), i);
        }
        due.is("all are kept", x.clearBuffer(), 60);
        for (int i = 1; i <= 60; i++) {
            due.is("length anew", x.append('n'), i);
        }
    }

    @Says("append: Throws IllegalStateException if the buffer has 60 characters")
    static void theSixtyFirstCharacter() {
        TestSlots x = new TestSlots();
        write(x, SIXTY);
        due.refuses(x, "a", STATE, () -> x.append('a'));
        due.refuses(x, "!", STATE, () -> x.append(33));
        due.refuses(x, "~", STATE, () -> x.append(126));
        due.is("sixty are kept", x.clearBuffer(), 60);
    }

    @Says("code: the character code, 33 to 126")
    static void codesFrom33To126() {
        for (int code = 33; code <= 126; code++) {
            TestSlots x = new TestSlots();
            due.is("code " + code, x.append(code), 1);
            due.is("is kept", x.digest(), digestOf(x, String.valueOf((char) code)));
        }
    }

    @Says("append: Throws IllegalArgumentException if code is not 33 to 126")
    static void otherCodes() {
        TestSlots x = new TestSlots();
        int[] codes = {32, 127, 0, -1, 10, 128, 255, 65536 + 'a', 256 + 'a', -'a', Integer.MAX_VALUE, Integer.MIN_VALUE};
        for (int code : codes) {
            due.refuses(x, "code " + code, ARGUMENT, () -> x.append(code));
        }
        due.is("the buffer's length", x.clearBuffer(), 0);
    }

    @Says("append: If several exceptions apply, the one that is named first in the throws clause is thrown.")
    static void aWrongCodeIntoAFullBuffer() {
        TestSlots x = new TestSlots();
        write(x, SIXTY);
        for (int code : new int[] {32, 127, -1, Integer.MAX_VALUE, Integer.MIN_VALUE}) {
            due.refuses(x, "code " + code, ARGUMENT, () -> x.append(code));
        }
    }

    @Says("Clears the buffer. Returns the length that it had.")
    static void clearingTheBuffer() {
        TestSlots x = new TestSlots();
        due.is("an empty one", x.clearBuffer(), 0);
        x.append('a');
        due.is("one character", x.clearBuffer(), 1);
        due.is("empty behind it", x.clearBuffer(), 0);
        due.is("no error is left", x.firstError(), 0);
        write(x, SIXTY);
        due.is("a full one", x.clearBuffer(), 60);
        due.is("empty behind it", x.append('a'), 1);
        due.refuses(x, "the orders from before", ARGUMENT, () -> x.run());
    }

    @Says("Clears the buffer: what stood in it before is read no more")
    static void whatStoodInTheBufferBefore() {
        String text = "ask11;quit10;ill3@9;next;fail0";
        for (int length = 0; length <= text.length(); length++) {
            TestSlots x = new TestSlots();
            write(x, text);
            x.clearBuffer();
            write(x, text.substring(0, length));
            due.is("the first error", x.firstError(), length);
            due.is("the digest", x.digest(), digestOf(x, text.substring(0, length)));
        }
        TestSlots y = new TestSlots();
        write(y, "next;next");
        write(y, "nex");
        due.refuses(y, "not complete", ARGUMENT, () -> y.run());
        TestSlots z = office(0, 12);
        write(z, "ask11");
        write(z, "ask1");
        due.is("carried out", z.run(), 1);
        due.is("the pupil 1, not 11", z.pupil(1, 0) * 10 + z.pupil(11, 0), 10);
    }

    // ---- syntax errors

    @Says("Returns the length of the buffer if there is none: an empty buffer")
    static void noErrorInAnEmptyBuffer() {
        fits("");
    }

    @Says("Returns the length of the buffer if there is none: a full buffer")
    static void noErrorInAFullBuffer() {
        fits(SIXTY);
        fits("next;next;next;next;next;next;next;next;next;next;next;next;");
        fits("ask10;ask10;ask10;ask10;ask10;ask10;ask10;ask10;ask10;next;p");
        fits("ask10;ask10;ask10;ask10;ask10;ask10;next;next;next;next;ill3");
        firstErrorOf("next;next;next;next;next;next;next;next;next;next;next;ask12", 59);
    }

    @Says("a character is a syntax error if no orders as a text, of any length, begin with it: also longer than the buffer")
    static void ordersLongerThanTheBuffer() {
        String most = "next;next;next;next;next;next;next;next;next;next;next;";
        fits(most + "ill0@");
        fits(most + "ill3");
        fits(most + "quit");
        fits(most + "pass1");
        fits(most.substring(5) + "ask0;ask1;");
        fits("ask10;ask10;ask10;ask10;ask10;ask10;ask10;ask10;ask10;ask10;");
    }

    @Says("Returns the index of the first character that is a syntax error: each character behind each beginning")
    static void eachCharacterBehindEachBeginning() {
        Set<String> orders = allOrders();
        Set<String> beginnings = new TreeSet<>();
        for (String order : orders) {
            for (int i = 0; i <= order.length(); i++) {
                beginnings.add(order.substring(0, i));
            }
        }
        for (String beginning : beginnings) {
            for (char c = 33; c <= 126; c++) {
                String text = beginning + c;
                boolean right = c == ';' ? orders.contains(beginning) : beginnings.contains(text);
                firstErrorOf(text, right ? text.length() : beginning.length());
                firstErrorOf("ask1;" + text, 5 + (right ? text.length() : beginning.length()));
            }
        }
    }

    @Says("the first character that is a syntax error: of several the first")
    static void theFirstOfSeveralErrors() {
        firstErrorOf("!!!", 0);
        firstErrorOf("ask0!ask0!", 4);
        firstErrorOf("ask12;ask13", 4);
        firstErrorOf("ask0;;;", 5);
    }

    @Says("Orders as a text are one or more orders with \";\" between them")
    static void ordersWithSemicolonsBetween() {
        due.holds("no order", isRefused(""));
        due.holds("one order", !isRefused("next"));
        due.holds("two orders", !isRefused("next;next"));
        due.holds("none behind the sign", isRefused("next;"));
        due.holds("none ahead of the sign", isRefused(";next"));
        due.holds("none between", isRefused("next;;next"));
        due.holds("no sign between", isRefused("nextnext"));
        firstErrorOf(";next", 0);
        firstErrorOf("next;;next", 5);
        firstErrorOf("nextnext", 4);
        fits("next;");
    }

    @Says("\"ask\", \"quit\", \"pass\", \"fail\" and a pupil, 0 to 11")
    static void pupilsFrom0To11() {
        for (String word : new String[] {"ask", "quit", "pass", "fail"}) {
            for (int pupil = 0; pupil <= 99; pupil++) {
                String text = word + pupil;
                int place = pupil <= 11 ? text.length() : text.length() - 1;
                firstErrorOf(text, place);
                due.holds(text + " as orders", isRefused(text) == pupil > 11);
            }
            firstErrorOf(word + ";", word.length());
            firstErrorOf(word + "-1", word.length());
            due.holds(word + " without a pupil", isRefused(word));
            fits(word);
        }
    }

    @Says("\"ill\", an examiner, 0 to 3, \"@\", and how many days behind today, 0 to 9")
    static void examinersFrom0To3AndDaysFrom0To9() {
        for (int examiner = 0; examiner <= 9; examiner++) {
            for (int days = 0; days <= 10; days++) {
                String text = "ill" + examiner + "@" + days;
                firstErrorOf(text, examiner > 3 ? 3 : 6);
                due.holds(text + " as orders", isRefused(text) == (examiner > 3 || days > 9));
            }
        }
        firstErrorOf("ill10@0", 4);
        firstErrorOf("ill@0", 3);
        firstErrorOf("ill0;", 4);
        firstErrorOf("ill00", 4);
        firstErrorOf("ill0@;", 5);
        firstErrorOf("ill0@@", 5);
        for (String text : new String[] {"ill", "ill0", "ill0@"}) {
            fits(text);
            due.holds(text + " is not complete", isRefused(text));
        }
    }

    @Says("or \"next\" (a day goes by)")
    static void nextHasNoNumber() {
        fits("next");
        firstErrorOf("next0", 4);
        firstErrorOf("next@", 4);
        firstErrorOf("nex;", 3);
    }

    @Says("Numbers are without leading zeros.")
    static void noLeadingZeros() {
        for (int digit = 0; digit <= 9; digit++) {
            firstErrorOf("ask0" + digit, 4);
            firstErrorOf("fail0" + digit, 5);
            firstErrorOf("ill0" + digit + "@1", 4);
            firstErrorOf("ill1@0" + digit, 6);
            due.holds("ask0" + digit, isRefused("ask0" + digit));
        }
        fits("ask0");
        fits("ask10");
    }

    @Says("Finds the first syntax error of the buffer. (It is not undoable, and changes nothing.)")
    static void firstErrorChangesNothing() {
        TestSlots x = office(1, 1);
        write(x, "ask0;next;x");
        long before = x.digest();
        due.is("the error", x.firstError(), 10);
        due.is("again", x.firstError(), 10);
        due.is("the digest", x.digest(), before);
        due.is("the buffer's length", x.clearBuffer(), 11);
    }

    // ---- run

    @Says("run: Throws IllegalArgumentException if the buffer is not complete orders as a text: each beginning of one")
    static void onlyCompleteOrders() {
        String text = "ask11;quit0;pass5;fail10;ill3@9;next";
        Set<String> complete = Set.of("ask1", "ask11", "ask11;quit0", "ask11;quit0;pass5", "ask11;quit0;pass5;fail1",
            "ask11;quit0;pass5;fail10", "ask11;quit0;pass5;fail10;ill3@9", text);
        for (int length = 0; length <= text.length(); length++) {
            String beginning = text.substring(0, length);
            due.holds(beginning, isRefused(beginning) != complete.contains(beginning));
        }
    }

    @Says("A call that throws an exception changes nothing: run keeps the buffer, and carries none out")
    static void aRefusedRunKeepsTheBuffer() {
        for (String text : new String[] {"", "next;", "next;nex", "next;next;!", "ask0;ask12", "next;next;next;ill0@"}) {
            TestSlots x = office(1, 1);
            write(x, text);
            due.refuses(x, text, ARGUMENT, () -> x.run());
            due.is("the day", x.count(0), 0);
            due.is("saved states", x.count(14), 2);
            due.is("the buffer's length", x.clearBuffer(), text.length());
        }
    }

    @Says("one after the other, up to the first one whose method would throw an exception")
    static void upToTheFirstThatWouldThrow() {
        String[] stops = {"ask2", "ask11", "ask0", "ask1", "quit1", "quit2", "quit11", "pass1", "pass2", "pass11",
            "fail1", "fail2", "fail11", "ill1@0", "ill3@9"};
        for (String stop : stops) {
            TestSlots x = officeWhereAllAsked(1, 2);
            x.test(1, true);
            due.is("behind one order: " + stop, runText(x, "ill0@9;" + stop + ";next"), 1);
            due.is("none behind it", x.count(0), 0);
            due.is("the one ahead of it", x.examiner(0, 4), 1);
            due.is("the buffer's length", x.clearBuffer(), 0);
        }
        TestSlots y = officeWhereAllAsked(1, 5);
        due.is("a slot of tomorrow", runText(y, "pass0;fail4;next"), 1);
        due.is("and the day behind", runText(y, "next;fail4"), 2);
    }

    @Says("Carries out the orders in the buffer as ask(), quit(), test(), cancel() and next() do")
    static void ordersDoAsTheMethodsDo() {
        TestSlots x = officeWhereAllAsked(2, 12);
        TestSlots y = officeWhereAllAsked(2, 12);
        due.is("carried out", runText(x, "quit11;ask11;pass0;fail1;ill1@0;ill0@9;next;ask1;fail10"), 9);
        y.quit(11);
        y.ask(11);
        y.test(0, true);
        y.test(1, false);
        y.cancel(1, 0);
        y.cancel(0, 9);
        y.next();
        y.ask(1);
        y.test(10, false);
        due.is("the same state", seen(x), seen(y));
    }

    @Says("run: waiting is no exception: ask is carried out also if the pupil waits, and so is quit")
    static void waitingIsNoStop() {
        TestSlots x = office(0, 12);
        due.is("carried out", runText(x, "ask10;ask11;quit10;next;ask0"), 5);
        due.is("waits", x.pupil(11, 9), 0);
        due.is("waits behind", x.pupil(0, 9), 1);
    }

    @Says("and clears the buffer.")
    static void runClearsTheBuffer() {
        TestSlots x = new TestSlots();
        runText(x, "next");
        due.is("length behind all orders", x.clearBuffer(), 0);
        runText(x, "ask0;next");
        due.is("length behind none", x.clearBuffer(), 0);
        due.refuses(x, "run again", ARGUMENT, () -> x.run());
    }

    @Says("run: Undoable, as one call, also if none is carried out.")
    static void runIsUndoableAsOneCall() {
        TestSlots x = officeWhereAllAsked(1, 1);
        long before = seen(x);
        runText(x, "pass0;next;next");
        due.is("saved states", x.count(14), 4);
        x.undo();
        due.is("all is undone", seen(x), before);
        due.is("none is carried out", runText(x, "ask0"), 0);
        due.is("saved states", x.count(14), 4);
        due.is("undo", x.undo(), 3);
        due.is("nothing had changed", seen(x), before);
        for (int i = 0; i < 7; i++) {
            runText(x, "ask0");
        }
        due.is("six at most", x.count(14), 6);
    }

    @Says("Returns how many are carried out.")
    static void runReturnsTheNumber() {
        due.is("none", runText(new TestSlots(), "ask0"), 0);
        due.is("one", runText(new TestSlots(), "next"), 1);
        due.is("the most that the buffer has",
            runText(office(0, 1), "ask0;quit0;ask0;next;next;next;next;next;next;next;next;next"), 12);
        due.is("sixty characters", runText(office(0, 12), SIXTY), 12);
        due.is("all but the last", runText(office(0, 11), SIXTY), 11);
    }

    // ---- undo

    @Says("undo: Throws IllegalStateException if there is none")
    static void nothingToUndo() {
        TestSlots x = new TestSlots();
        due.refuses(x, "a new object", STATE, () -> x.undo());
        x.next();
        due.is("one", x.undo(), 0);
        due.refuses(x, "one undone", STATE, () -> x.undo());
        for (int i = 0; i < 9; i++) {
            x.next();
        }
        for (int left = 5; left >= 0; left--) {
            due.is("left", x.undo(), left);
        }
        due.refuses(x, "six undone", STATE, () -> x.undo());
        due.is("the day", x.count(0), 3);
    }

    @Says("At most 6 states are saved; the oldest one is dropped first.")
    static void sixStatesAtMost() {
        for (int calls = 0; calls <= 14; calls++) {
            TestSlots x = new TestSlots();
            goOn(x, calls);
            int most = Math.min(6, calls);
            due.is("saved behind " + calls + " calls", x.count(14), most);
            for (int i = 1; i <= most; i++) {
                due.is("left", x.undo(), most - i);
                due.is("the day", x.count(0), calls - i);
            }
            due.refuses(x, "no more", STATE, () -> x.undo());
        }
    }

    @Says("Restores the latest saved state, and drops it. Returns how many saved states are left.")
    static void theLatestSavedState() {
        TestSlots x = new TestSlots();
        goOn(x, 6);
        due.is("left", x.undo(), 5);
        due.is("left", x.undo(), 4);
        due.is("the day", x.count(0), 4);
        x.set(0, 7);
        due.is("saved anew", x.count(14), 5);
        x.addPupil();
        x.next();
        due.is("six again", x.count(14), 6);
        due.is("left", x.undo(), 5);
        due.is("left", x.undo(), 4);
        due.is("pupils", x.count(2), 0);
        due.is("left", x.undo(), 3);
        due.is("the setting", x.setting(0), 3);
        due.is("left", x.undo(), 2);
        due.is("the day", x.count(0), 3);
    }

    @Says("Each method that is marked \"undoable\" and does not throw an exception saves the state from before it")
    static void eachUndoableMethodSaves() {
        for (int i = 0; i < UNDOABLE_CALLS; i++) {
            TestSlots x = new TestSlots();
            for (int j = 0; j < i; j++) {
                undoableCall(x, j);
            }
            long before = seen(x);
            int saved = x.count(14);
            undoableCall(x, i);
            due.is("saved by call " + i, x.count(14), Math.min(6, saved + 1));
            due.is("undo of call " + i, x.undo(), Math.min(5, saved));
            due.is("the state from before call " + i, seen(x), before);
        }
    }

    @Says("(also if it changes nothing)")
    static void savedAlsoIfNothingChanges() {
        TestSlots x = new TestSlots();
        long before = seen(x);
        x.set(0, 3);
        x.set(3, 50);
        runText(x, "ask0");
        due.is("nothing has changed", seen(x), before);
        due.is("saved states", x.count(14), 3);
        due.is("left", x.undo(), 2);
        due.is("left", x.undo(), 1);
        due.is("left", x.undo(), 0);
    }

    @Says("A call that throws an exception saves nothing.")
    static void refusedCallsSaveNothing() {
        List<Runnable> calls = new ArrayList<>();
        TestSlots x = office(4, 12);
        int pupils = x.count(2);
        calls.add(() -> x.addExaminer());
        calls.add(() -> x.addPupil());
        calls.add(() -> x.ask(12));
        calls.add(() -> x.quit(0));
        calls.add(() -> x.cancel(4, 0));
        calls.add(() -> x.test(0, true));
        calls.add(() -> x.set(0, 21));
        calls.add(() -> x.run());
        due.is("saved states", x.count(14), 6);
        for (Runnable call : calls) {
            try {
                call.run();
                due.holds("was not refused", false);
            } catch (RuntimeException e) {
                due.is("saved states", x.count(14), 6);
            }
        }
        for (int i = 0; i < 6; i++) {
            x.undo();
        }
        due.is("the state from six calls before", x.count(2), pupils - 6);
        for (Runnable call : calls.subList(2, calls.size())) {
            try {
                call.run();
                due.holds("was not refused", false);
            } catch (RuntimeException e) {
                due.is("no saved states", x.count(14), 0);
            }
        }
    }

    @Says("append, clearBuffer, firstError, undo and the looks are not undoable")
    static void othersSaveNothing() {
        TestSlots x = officeWhereAllAsked(1, 1);
        int saved = x.count(14);
        x.append('a');
        x.firstError();
        x.clearBuffer();
        x.pupil(0, 0);
        x.examiner(0, 0);
        x.slot(0, 0, 0);
        x.setting(0);
        x.earliest(0, 0);
        x.ifCancelled(0, 0, 0);
        x.ifTested(0, 0);
        x.couldHave(0);
        x.passedShare();
        x.digest();
        due.is("saved states", x.count(14), saved);
        x.undo();
        due.is("undo drops one", x.count(14), saved - 1);
    }

    @Says("all, also what is counted so far")
    static void undoRestoresAllCounts() {
        TestSlots x = officeWhereAllAsked(1, 6);
        long before = seen(x);
        x.test(0, true);
        x.test(1, false);
        x.cancel(0, 1);
        x.next();
        x.cancel(0, 9);
        x.set(1, 0);
        due.holds("changed", seen(x) != before);
        for (int i = 0; i < 6; i++) {
            x.undo();
        }
        due.is("as before", seen(x), before);
        int[] counts = {0, 1, 6, 0, 0, 6, 0, 0, 0, 0, 0, 300, 34, 2, 0};
        for (int what = 0; what <= 14; what++) {
            due.is("count " + what, x.count(what), counts[what]);
        }
        due.is("mornings", x.examiner(0, 4), 0);
        due.is("tests on the route 0", x.examiner(0, 5), 0);
        due.is("moved", x.pupil(4, 8), 0);
    }

    @Says("all: also who began to wait earlier, and what was paid as a fee")
    static void undoRestoresWhatTheLooksDoNotTell() {
        TestSlots x = officeWhereAllAsked(0, 2);
        x.quit(0);
        x.set(3, 70);
        x.ask(0);
        due.is("waits behind", x.pupil(0, 9), 1);
        x.undo();
        x.undo();
        x.undo();
        due.is("waits ahead", x.pupil(0, 9), 0);
        due.is("the fee of then", x.quit(0), 50);
    }

    @Says("but the buffer and the saved states.")
    static void undoKeepsTheBuffer() {
        TestSlots x = new TestSlots();
        x.append('n');
        x.next();
        x.append('e');
        x.undo();
        due.is("what was appended stays", x.firstError(), 2);
        x.next();
        x.clearBuffer();
        x.undo();
        due.is("what was cleared stays so", x.clearBuffer(), 0);
        runText(x, "next");
        x.undo();
        due.is("run's buffer does not come back", x.clearBuffer(), 0);
    }

    @Says("A saved state is of before its call, whatever is done behind it.")
    static void aSavedStateStays() {
        TestSlots x = officeWhereAllAsked(2, 5);
        long before = seen(x);
        x.set(2, 9);
        x.undo();
        x.cancel(0, 0);
        x.ifCancelled(1, 0, 2);
        x.undo();
        due.is("as before", seen(x), before);
        x.next();
        x.append('n');
        x.digest();
        x.undo();
        due.is("as before", seen(x), before);
    }
}
