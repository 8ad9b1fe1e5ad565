import java.util.Arrays;

/** Slots for driving tests. README.md tells how to use it, ../shared/DOC.md what it promises. */
public final class TestSlots {
    public static final int NONE = -1;

    private static final int FREE = NONE;
    private static final int CLOSED = -2;

    private static final int MOST_EXAMINERS = 4;
    private static final int MOST_PUPILS = 12;
    private static final int DAYS = 10;
    private static final int SLOTS = 4;
    private static final int MORNING_SLOTS = 2;
    private static final int ROUTES = 4;
    private static final int CELLS_OF_A_DAY = SLOTS * MOST_EXAMINERS;
    private static final int LAST_DAY = 9999;
    private static final int LONGEST_WAIT = 60;
    private static final int MOST_SAVES = 6;
    private static final int MOST_CHARACTERS = 60;
    private static final int LOWEST_CODE = 33;
    private static final int HIGHEST_CODE = 126;
    private static final int LATER_BY_NOTHING = 1000;

    private static final int IDLE = 0;
    private static final int WAITING = 1;
    private static final int WITH_SLOT = 2;
    private static final int PASSED = 3;

    private static final int WAIT_AFTER_FAILING = 0;
    private static final int NOT_SAME_EXAMINER = 1;
    private static final int DAYS_TO_GIVE_BACK = 2;
    private static final int FEE = 3;
    private static final int[] FIRST_SETTINGS = {3, 1, 2, 50};
    private static final int[] HIGHEST_SETTINGS = {20, 1, 9, 999};

    private static final int ASK = 0;
    private static final int QUIT = 1;
    private static final int PASS = 2;
    private static final int FAIL = 3;
    private static final int ILL = 4;
    private static final int NEXT = 5;

    private static final int LAST_PUPIL_PROPERTY = 10;
    private static final int LAST_EXAMINER_PROPERTY = 8;
    private static final int LAST_COUNT = 14;
    private static final int SAVED_STATES = 14;
    private static final int LAST_OF_THREE = 2;

    private static final long FIRST_HASH = 2731L;
    private static final int EXPONENT_OF_ONE = 1023;
    private static final int FRACTION_BITS = 52;

    private final Office office = new Office();
    /** What would be is tried out here, so that no call has to make an office of its own. */
    private final Office trial = new Office();
    /** The oldest saved state comes first; the offices behind the saved ones are spare. */
    private final Office[] saves = new Office[MOST_SAVES];
    private int saved = 0;
    private final OrderText text = new OrderText();

    public TestSlots() {
        for (int i = 0; i < saves.length; i++) {
            saves[i] = new Office();
        }
    }

    // ---- who there is

    public int addExaminer() throws IllegalStateException {
        if (office.examinerCount >= MOST_EXAMINERS) {
            throw new IllegalStateException("there are 4 examiners");
        }
        save();
        return office.takeOnExaminer();
    }

    public int addPupil() throws IllegalStateException {
        if (office.pupilCount >= MOST_PUPILS) {
            throw new IllegalStateException("there are 12 pupils");
        }
        save();
        return office.takeOnPupil();
    }

    // ---- slots

    public int ask(int pupil) throws IndexOutOfBoundsException, IllegalStateException {
        if (!office.hasPupil(pupil)) {
            throw new IndexOutOfBoundsException("no such pupil");
        }
        if (!office.mayAsk(pupil)) {
            throw new IllegalStateException("the pupil is not idle");
        }
        save();
        return office.letAsk(pupil);
    }

    public int quit(int pupil) throws IndexOutOfBoundsException, IllegalStateException {
        if (!office.hasPupil(pupil)) {
            throw new IndexOutOfBoundsException("no such pupil");
        }
        if (!office.mayQuit(pupil)) {
            throw new IllegalStateException("the pupil has no slot, and does not wait");
        }
        save();
        return office.letQuit(pupil);
    }

    public int cancel(int examiner, int days) throws IndexOutOfBoundsException, IllegalArgumentException {
        if (!office.hasExaminer(examiner)) {
            throw new IndexOutOfBoundsException("no such examiner");
        }
        if (!isFromTo(days, 0, DAYS - 1)) {
            throw new IllegalArgumentException("days is out of range");
        }
        save();
        return office.cancelMorning(examiner, days);
    }

    public int test(int pupil, boolean passes) throws IndexOutOfBoundsException, IllegalStateException {
        if (!office.hasPupil(pupil)) {
            throw new IndexOutOfBoundsException("no such pupil");
        }
        if (!office.mayBeTested(pupil)) {
            throw new IllegalStateException("the pupil has no slot of today");
        }
        save();
        return office.holdTest(pupil, passes);
    }

    public int next() throws IllegalStateException {
        if (!office.mayGoOn()) {
            throw new IllegalStateException("the day would be above 9999");
        }
        save();
        return office.goOn();
    }

    public int set(int setting, int value) throws IndexOutOfBoundsException, IllegalArgumentException {
        if (!isSetting(setting)) {
            throw new IndexOutOfBoundsException("no such setting");
        }
        if (!isFromTo(value, 0, HIGHEST_SETTINGS[setting])) {
            throw new IllegalArgumentException("value is out of range");
        }
        save();
        int previous = office.settings[setting];
        office.settings[setting] = value;
        return previous;
    }

    // ---- texts

    public int append(int code) throws IllegalArgumentException, IllegalStateException {
        if (!isFromTo(code, LOWEST_CODE, HIGHEST_CODE)) {
            throw new IllegalArgumentException("code is not 33 to 126");
        }
        if (!text.hasRoom()) {
            throw new IllegalStateException("the buffer has 60 characters");
        }
        text.write(code);
        return text.length;
    }

    public int clearBuffer() {
        int length = text.length;
        text.length = 0;
        return length;
    }

    public int firstError() {
        text.read();
        return text.at;
    }

    public int run() throws IllegalArgumentException {
        if (!text.read()) {
            throw new IllegalArgumentException("the buffer is not complete orders");
        }
        save();
        int done = 0;
        while (done < text.orders && carryOut(done)) {
            done++;
        }
        text.length = 0;
        return done;
    }

    public int undo() throws IllegalStateException {
        if (!isFromTo(saved, 1, saves.length)) {
            throw new IllegalStateException("there is no saved state");
        }
        saved--;
        office.copyFrom(saves[saved]);
        return saved;
    }

    // ---- looks; nothing is changed

    public int pupil(int pupil, int what) throws IndexOutOfBoundsException, IllegalArgumentException {
        if (!office.hasPupil(pupil)) {
            throw new IndexOutOfBoundsException("no such pupil");
        }
        if (!isFromTo(what, 0, LAST_PUPIL_PROPERTY)) {
            throw new IllegalArgumentException("what is not 0 to 10");
        }
        return office.pupilProperty(pupil, what);
    }

    public int examiner(int examiner, int what) throws IndexOutOfBoundsException, IllegalArgumentException {
        if (!office.hasExaminer(examiner)) {
            throw new IndexOutOfBoundsException("no such examiner");
        }
        if (!isFromTo(what, 0, LAST_EXAMINER_PROPERTY)) {
            throw new IllegalArgumentException("what is not 0 to 8");
        }
        return office.examinerProperty(examiner, what);
    }

    public int slot(int examiner, int days, int slot) throws IndexOutOfBoundsException, IllegalArgumentException {
        if (!office.hasExaminer(examiner)) {
            throw new IndexOutOfBoundsException("no such examiner");
        }
        if (!isFromTo(days, 0, DAYS - 1) || !isFromTo(slot, 0, SLOTS - 1)) {
            throw new IllegalArgumentException("days or slot is out of range");
        }
        return office.diary[cellAt(examiner, days, slot)];
    }

    public int count(int what) throws IllegalArgumentException {
        if (!isFromTo(what, 0, LAST_COUNT)) {
            throw new IllegalArgumentException("what is not 0 to 14");
        }
        return what == SAVED_STATES ? saved : office.number(what);
    }

    public int setting(int setting) throws IndexOutOfBoundsException {
        if (!isSetting(setting)) {
            throw new IndexOutOfBoundsException("no such setting");
        }
        return office.settings[setting];
    }

    // ---- what would be; nothing is changed

    public int earliest(int pupil, int what) throws IndexOutOfBoundsException, IllegalArgumentException {
        if (!office.hasPupil(pupil)) {
            throw new IndexOutOfBoundsException("no such pupil");
        }
        if (!isFromTo(what, 0, LAST_OF_THREE)) {
            throw new IllegalArgumentException("what is not 0 to 2");
        }
        return partOfCell(office.earliestCell(pupil), what);
    }

    public int ifCancelled(int examiner, int days, int what)
            throws IndexOutOfBoundsException, IllegalArgumentException {
        if (!office.hasExaminer(examiner)) {
            throw new IndexOutOfBoundsException("no such examiner");
        }
        if (!isFromTo(days, 0, DAYS - 1) || !isFromTo(what, 0, LAST_OF_THREE)) {
            throw new IllegalArgumentException("days is out of range, or what is not 0 to 2");
        }
        trial.copyFrom(office);
        int moved = trial.cancelMorning(examiner, days);
        if (what == 0) {
            return moved;
        }
        int waiting = 0;
        int later = LATER_BY_NOTHING;
        for (int slot = 0; slot < MORNING_SLOTS; slot++) {
            int pupil = office.diary[cellAt(examiner, days, slot)];
            if (office.hasPupil(pupil)) {
                int newDays = partOfCell(trial.cellOf(pupil), 0);
                waiting += newDays == NONE ? 1 : 0;
                later += newDays == NONE ? 0 : newDays - days;
            }
        }
        return what == 1 ? waiting : later;
    }

    public int ifTested(int pupil, int examiner) throws IndexOutOfBoundsException {
        if (!office.hasPupil(pupil) || !office.hasExaminer(examiner)) {
            throw new IndexOutOfBoundsException("no such pupil or examiner");
        }
        return office.routeFor(pupil, examiner);
    }

    public int couldHave(int days) throws IllegalArgumentException {
        if (!isFromTo(days, 0, DAYS - 1)) {
            throw new IllegalArgumentException("days is out of range");
        }
        return office.mostWithSlotsOf(days);
    }

    public double passedShare() {
        int tests = office.testsSoFar();
        return tests == 0 ? 1.0 : (double) office.passedSoFar() / (double) tests;
    }

    public long digest() {
        long hash = FIRST_HASH;
        for (int what = 0; what <= LAST_COUNT; what++) {
            hash = hashWith(hash, count(what));
        }
        for (int setting = 0; setting < office.settings.length; setting++) {
            hash = hashWith(hash, office.settings[setting]);
        }
        for (int pupil = 0; pupil < office.pupilCount; pupil++) {
            hash = hashWithPupil(hash, pupil);
        }
        for (int examiner = 0; examiner < office.examinerCount; examiner++) {
            hash = hashWithExaminer(hash, examiner);
        }
        hash = hashWith(hash, couldHave(0));
        hash = hashWith(hash, couldHave(1));
        hash = hashWith(hash, couldHave(5));
        hash = hashWith(hash, bitsOf(passedShare()));
        hash = hashWith(hash, text.length);
        for (int i = 0; i < text.codes.length && i < text.length; i++) {
            hash = hashWith(hash, text.codes[i]);
        }
        return hash;
    }

    // ---- helpers

    private static boolean isFromTo(int value, int lowest, int highest) {
        return value >= lowest && value <= highest;
    }

    private static boolean isSetting(int setting) {
        return isFromTo(setting, 0, FIRST_SETTINGS.length - 1);
    }

    /** The cells go by day, then slot, then examiner, so that the earliest of some is the lowest. */
    private static int cellAt(int examiner, int days, int slot) {
        return days * CELLS_OF_A_DAY + slot * MOST_EXAMINERS + examiner;
    }

    private static int daysTo(int cell) {
        return cell / CELLS_OF_A_DAY;
    }

    private static int examinerAt(int cell) {
        return cell % MOST_EXAMINERS;
    }

    /** 0: in how many days the cell is, 1: its slot, 2: its examiner. */
    private static int partOfCell(int cell, int part) {
        if (cell == NONE) {
            return NONE;
        }
        switch (part) {
            case 0:
                return daysTo(cell);
            case 1:
                return cell / MOST_EXAMINERS % SLOTS;
            default:
                return examinerAt(cell);
        }
    }

    private void save() {
        if (saved >= saves.length) {
            dropOldestSave();
        }
        saves[saved].copyFrom(office);
        saved++;
    }

    private void dropOldestSave() {
        Office spare = saves[0];
        for (int i = 1; i < saves.length; i++) {
            saves[i - 1] = saves[i];
        }
        saves[saves.length - 1] = spare;
        saved = saves.length - 1;
    }

    /** Carries out the order at the place, unless its method would throw an exception. */
    private boolean carryOut(int place) {
        int number = text.numbers[place];
        switch (text.kinds[place]) {
            case ASK:
                return office.hasPupil(number) && office.mayAsk(number) && office.letAsk(number) >= NONE;
            case QUIT:
                return office.hasPupil(number) && office.mayQuit(number) && office.letQuit(number) >= 0;
            case PASS:
                return carryOutTest(number, true);
            case FAIL:
                return carryOutTest(number, false);
            case ILL:
                return office.hasExaminer(number) && office.cancelMorning(number, text.days[place]) >= 0;
            default:
                return office.mayGoOn() && office.goOn() >= 0;
        }
    }

    private boolean carryOutTest(int pupil, boolean passes) {
        return office.hasPupil(pupil) && office.mayBeTested(pupil) && office.holdTest(pupil, passes) >= 0;
    }

    private static long hashWith(long hash, long value) {
        return 31L * hash + value;
    }

    private long hashWithPupil(long before, int pupil) {
        long hash = before;
        for (int what = 0; what <= LAST_PUPIL_PROPERTY; what++) {
            hash = hashWith(hash, pupil(pupil, what));
        }
        for (int what = 0; what <= LAST_OF_THREE; what++) {
            hash = hashWith(hash, earliest(pupil, what));
        }
        return hash;
    }

    private long hashWithExaminer(long before, int examiner) {
        long hash = before;
        for (int what = 0; what <= LAST_EXAMINER_PROPERTY; what++) {
            hash = hashWith(hash, examiner(examiner, what));
        }
        for (int days = 0; days < DAYS; days++) {
            for (int slot = 0; slot < SLOTS; slot++) {
                hash = hashWith(hash, slot(examiner, days, slot));
            }
        }
        for (int days = 0; days <= 1; days++) {
            for (int what = 0; what <= LAST_OF_THREE; what++) {
                hash = hashWith(hash, ifCancelled(examiner, days, what));
            }
        }
        return office.hasPupil(0) ? hashWith(hash, ifTested(0, examiner)) : hash;
    }

    /** The bits of a share from 0 to 1, made by hand because the library's way is not to be had. */
    private static long bitsOf(double share) {
        if (share <= 0.0) {
            return 0L;
        }
        double scaled = share;
        long exponent = EXPONENT_OF_ONE;
        while (scaled < 1.0 && exponent > 1) {
            scaled = scaled * 2.0;
            exponent--;
        }
        long fraction = (long) ((scaled - 1.0) * (double) (1L << FRACTION_BITS));
        return (exponent << FRACTION_BITS) + fraction;
    }

    // ---- the parts of an office

    private static final class Pupil {
        int status = IDLE;
        int failed = 0;
        int testableFrom = 0;
        int latestRoute = NONE;
        int latestExaminer = NONE;
        int moved = 0;
        /** Grows with each beginning to wait in the office, so that the lower one began earlier. */
        int began = 0;
        int paid = 0;
        int fee = 0;

        void copyFrom(Pupil other) {
            status = other.status;
            failed = other.failed;
            testableFrom = other.testableFrom;
            latestRoute = other.latestRoute;
            latestExaminer = other.latestExaminer;
            moved = other.moved;
            began = other.began;
            paid = other.paid;
            fee = other.fee;
        }

        boolean comesAheadOf(Pupil other) {
            return moved > other.moved || moved == other.moved && began < other.began;
        }
    }

    private static final class Examiner {
        final int[] testsOnRoute = new int[ROUTES];
        int passed = 0;
        int cancelled = 0;

        void copyFrom(Examiner other) {
            System.arraycopy(other.testsOnRoute, 0, testsOnRoute, 0, testsOnRoute.length);
            passed = other.passed;
            cancelled = other.cancelled;
        }

        int tests() {
            int sum = 0;
            for (int route = 0; route < testsOnRoute.length; route++) {
                sum += testsOnRoute[route];
            }
            return sum;
        }

        int leastUsedRouteBut(int avoided) {
            int best = avoided == 0 ? 1 : 0;
            for (int route = best + 1; route < testsOnRoute.length; route++) {
                if (route != avoided && testsOnRoute[route] < testsOnRoute[best]) {
                    best = route;
                }
            }
            return best;
        }
    }

    /** All that undo restores, and the rules by which it changes. */
    private static final class Office {
        int day = 0;
        int examinerCount = 0;
        int pupilCount = 0;
        int beginnings = 0;
        int stayedAway = 0;
        final int[] settings = new int[FIRST_SETTINGS.length];
        /** A cell tells its pupil, FREE or CLOSED; those of examiners to come are CLOSED. */
        final int[] diary = new int[DAYS * CELLS_OF_A_DAY];
        /** Those who have not come yet are as new in every office, saved ones too. */
        final Pupil[] pupils = new Pupil[MOST_PUPILS];
        final Examiner[] examiners = new Examiner[MOST_EXAMINERS];
        /** Only filled and read while slots are given out. */
        final int[] queue = new int[MOST_PUPILS];

        Office() {
            System.arraycopy(FIRST_SETTINGS, 0, settings, 0, settings.length);
            Arrays.fill(diary, CLOSED);
            for (int i = 0; i < pupils.length; i++) {
                pupils[i] = new Pupil();
            }
            for (int i = 0; i < examiners.length; i++) {
                examiners[i] = new Examiner();
            }
        }

        void copyFrom(Office other) {
            day = other.day;
            examinerCount = other.examinerCount;
            pupilCount = other.pupilCount;
            beginnings = other.beginnings;
            stayedAway = other.stayedAway;
            System.arraycopy(other.settings, 0, settings, 0, settings.length);
            System.arraycopy(other.diary, 0, diary, 0, diary.length);
            for (int i = 0; i < pupils.length; i++) {
                pupils[i].copyFrom(other.pupils[i]);
            }
            for (int i = 0; i < examiners.length; i++) {
                examiners[i].copyFrom(other.examiners[i]);
            }
        }

        boolean hasPupil(int pupil) {
            return pupil >= 0 && pupil < pupilCount;
        }

        boolean hasExaminer(int examiner) {
            return examiner >= 0 && examiner < examinerCount;
        }

        // -- what happens; the caller has asked before whether it may

        int takeOnExaminer() {
            int number = examinerCount;
            examinerCount++;
            for (int days = 0; days < DAYS; days++) {
                freeSlotsOf(number, days);
            }
            giveSlotsOut();
            return number;
        }

        int takeOnPupil() {
            int number = pupilCount;
            pupilCount++;
            pupils[number].testableFrom = day;
            return number;
        }

        boolean mayAsk(int pupil) {
            return pupils[pupil].status == IDLE;
        }

        int letAsk(int pupil) {
            Pupil asking = pupils[pupil];
            asking.fee = settings[FEE];
            asking.paid += asking.fee;
            beginToWait(asking);
            giveSlotsOut();
            return partOfCell(cellOf(pupil), 0);
        }

        boolean mayQuit(int pupil) {
            int status = pupils[pupil].status;
            return status == WAITING || status == WITH_SLOT;
        }

        int letQuit(int pupil) {
            Pupil leaving = pupils[pupil];
            int paidBack = leaving.fee;
            int cell = cellOf(pupil);
            if (cell != NONE) {
                diary[cell] = FREE;
                paidBack = daysTo(cell) < settings[DAYS_TO_GIVE_BACK] ? 0 : paidBack;
            }
            leaving.status = IDLE;
            leaving.paid -= paidBack;
            giveSlotsOut();
            return paidBack;
        }

        int cancelMorning(int examiner, int days) {
            int moved = 0;
            for (int slot = 0; slot < MORNING_SLOTS; slot++) {
                int cell = cellAt(examiner, days, slot);
                int holder = diary[cell];
                diary[cell] = CLOSED;
                if (hasPupil(holder)) {
                    pupils[holder].moved++;
                    beginToWait(pupils[holder]);
                    moved++;
                }
            }
            examiners[examiner].cancelled++;
            giveSlotsOut();
            return moved;
        }

        boolean mayBeTested(int pupil) {
            return partOfCell(cellOf(pupil), 0) == 0;
        }

        int holdTest(int pupil, boolean passes) {
            Pupil tested = pupils[pupil];
            int cell = cellOf(pupil);
            if (cell == NONE) {
                return NONE;
            }
            int examiner = examinerAt(cell);
            int route = routeFor(pupil, examiner);
            diary[cell] = CLOSED;
            examiners[examiner].testsOnRoute[route]++;
            tested.latestRoute = route;
            tested.latestExaminer = examiner;
            if (passes) {
                examiners[examiner].passed++;
                tested.status = PASSED;
            } else {
                tested.failed++;
                tested.status = IDLE;
                tested.testableFrom = day + Math.min(settings[WAIT_AFTER_FAILING] * tested.failed, LONGEST_WAIT);
            }
            return route;
        }

        boolean mayGoOn() {
            return day < LAST_DAY;
        }

        int goOn() {
            int away = 0;
            for (int cell = 0; cell < CELLS_OF_A_DAY; cell++) {
                if (hasPupil(diary[cell])) {
                    pupils[diary[cell]].status = IDLE;
                    away++;
                }
            }
            stayedAway += away;
            day++;
            System.arraycopy(diary, CELLS_OF_A_DAY, diary, 0, diary.length - CELLS_OF_A_DAY);
            for (int examiner = 0; examiner < examinerCount; examiner++) {
                freeSlotsOf(examiner, DAYS - 1);
            }
            giveSlotsOut();
            return away;
        }

        void freeSlotsOf(int examiner, int days) {
            for (int slot = 0; slot < SLOTS; slot++) {
                diary[cellAt(examiner, days, slot)] = FREE;
            }
        }

        void beginToWait(Pupil pupil) {
            pupil.status = WAITING;
            pupil.began = beginnings;
            beginnings++;
        }

        void giveSlotsOut() {
            Arrays.fill(queue, NONE);
            for (int pupil = 0; pupil < pupilCount; pupil++) {
                int place = placeInQueue(pupil);
                if (place >= 0 && place < queue.length) {
                    queue[place] = pupil;
                }
            }
            for (int place = 0; place < queue.length && hasPupil(queue[place]); place++) {
                int pupil = queue[place];
                int cell = earliestCell(pupil);
                if (cell != NONE) {
                    diary[cell] = pupil;
                    pupils[pupil].status = WITH_SLOT;
                }
            }
        }

        // -- what is so

        int placeInQueue(int pupil) {
            Pupil one = pupils[pupil];
            if (one.status != WAITING) {
                return NONE;
            }
            int ahead = 0;
            for (int i = 0; i < pupilCount; i++) {
                if (pupils[i].status == WAITING && pupils[i].comesAheadOf(one)) {
                    ahead++;
                }
            }
            return ahead;
        }

        int cellOf(int pupil) {
            for (int cell = 0; cell < diary.length; cell++) {
                if (diary[cell] == pupil) {
                    return cell;
                }
            }
            return NONE;
        }

        int earliestCell(int pupil) {
            for (int cell = 0; cell < diary.length; cell++) {
                if (diary[cell] == FREE && couldCome(pupil, daysTo(cell)) && mayMeet(pupil, examinerAt(cell))) {
                    return cell;
                }
            }
            return NONE;
        }

        boolean couldCome(int pupil, int days) {
            return day + days >= pupils[pupil].testableFrom;
        }

        boolean mayMeet(int pupil, int examiner) {
            return settings[NOT_SAME_EXAMINER] == 0 || pupils[pupil].latestExaminer != examiner;
        }

        int routeFor(int pupil, int examiner) {
            return examiners[examiner].leastUsedRouteBut(pupils[pupil].latestRoute);
        }

        /**
         * The most pupils that get slots are, as the greatest flow is the least cut, the least
         * over all groups of examiners of: the free slots of the group, and the pupils who may
         * meet an examiner outside it.
         */
        int mostWithSlotsOf(int days) {
            int least = MOST_PUPILS;
            for (int group = 0; group < 1 << MOST_EXAMINERS; group++) {
                int cut = freeSlotsOfGroup(group, days) + pupilsNotKeptTo(group, days);
                least = Math.min(least, cut);
            }
            return least;
        }

        int freeSlotsOfGroup(int group, int days) {
            int free = 0;
            for (int i = 0; i < CELLS_OF_A_DAY; i++) {
                if (diary[days * CELLS_OF_A_DAY + i] == FREE && isInGroup(group, examinerAt(i))) {
                    free++;
                }
            }
            return free;
        }

        int pupilsNotKeptTo(int group, int days) {
            int sum = 0;
            for (int pupil = 0; pupil < pupilCount; pupil++) {
                int status = pupils[pupil].status;
                boolean looks = status == IDLE || status == WAITING;
                if (looks && couldCome(pupil, days) && mayMeetOutside(pupil, group)) {
                    sum++;
                }
            }
            return sum;
        }

        boolean mayMeetOutside(int pupil, int group) {
            for (int examiner = 0; examiner < examinerCount; examiner++) {
                if (!isInGroup(group, examiner) && mayMeet(pupil, examiner)) {
                    return true;
                }
            }
            return false;
        }

        static boolean isInGroup(int group, int examiner) {
            return (group >> examiner & 1) == 1;
        }

        int pupilProperty(int pupil, int what) {
            Pupil one = pupils[pupil];
            switch (what) {
                case 0:
                    return one.status;
                case 1:
                    return one.failed;
                case 2:
                    return one.testableFrom;
                case 3:
                    return one.latestRoute;
                case 4:
                    return one.latestExaminer;
                case 8:
                    return one.moved;
                case 9:
                    return placeInQueue(pupil);
                case 10:
                    return one.paid;
                default:
                    return partOfCell(cellOf(pupil), what - 5);
            }
        }

        int examinerProperty(int examiner, int what) {
            Examiner one = examiners[examiner];
            switch (what) {
                case 0:
                    return one.tests();
                case 1:
                    return one.passed;
                case 2:
                    return cellsOfExaminer(examiner, FREE);
                case 3:
                    return cellsOfExaminer(examiner, CLOSED);
                case 4:
                    return one.cancelled;
                default:
                    return one.testsOnRoute[what - 5];
            }
        }

        int cellsOfExaminer(int examiner, int content) {
            int sum = 0;
            for (int cell = examiner; cell < diary.length; cell += MOST_EXAMINERS) {
                if (diary[cell] == content) {
                    sum++;
                }
            }
            return sum;
        }

        int number(int what) {
            switch (what) {
                case 0:
                    return day;
                case 1:
                    return examinerCount;
                case 2:
                    return pupilCount;
                case 7:
                    return testsSoFar();
                case 8:
                    return passedSoFar();
                case 9:
                    return movedSoFar();
                case 10:
                    return stayedAway;
                case 11:
                    return moneyTaken();
                case 12:
                    return freeSlots();
                case 13:
                    return daysToAllSlots();
                default:
                    return pupilsWho(what - 3);
            }
        }

        int pupilsWho(int status) {
            int sum = 0;
            for (int pupil = 0; pupil < pupilCount; pupil++) {
                if (pupils[pupil].status == status) {
                    sum++;
                }
            }
            return sum;
        }

        int testsSoFar() {
            int sum = 0;
            for (int examiner = 0; examiner < examinerCount; examiner++) {
                sum += examiners[examiner].tests();
            }
            return sum;
        }

        int passedSoFar() {
            int sum = 0;
            for (int examiner = 0; examiner < examinerCount; examiner++) {
                sum += examiners[examiner].passed;
            }
            return sum;
        }

        int movedSoFar() {
            int sum = 0;
            for (int pupil = 0; pupil < pupilCount; pupil++) {
                sum += pupils[pupil].moved;
            }
            return sum;
        }

        int moneyTaken() {
            int sum = 0;
            for (int pupil = 0; pupil < pupilCount; pupil++) {
                sum += pupils[pupil].paid;
            }
            return sum;
        }

        int freeSlots() {
            int sum = 0;
            for (int examiner = 0; examiner < examinerCount; examiner++) {
                sum += cellsOfExaminer(examiner, FREE);
            }
            return sum;
        }

        int daysToAllSlots() {
            int sum = 0;
            for (int cell = 0; cell < diary.length; cell++) {
                if (hasPupil(diary[cell])) {
                    sum += daysTo(cell);
                }
            }
            return sum;
        }
    }

    /** The buffer, and the orders that were read in it last. */
    private static final class OrderText {
        final int[] codes = new int[MOST_CHARACTERS];
        int length = 0;
        /** Where reading stands; where it ended, at the first error or behind all characters. */
        int at = 0;
        int orders = 0;
        final int[] kinds = new int[MOST_CHARACTERS];
        final int[] numbers = new int[MOST_CHARACTERS];
        final int[] days = new int[MOST_CHARACTERS];

        boolean hasRoom() {
            return length < codes.length;
        }

        void write(int code) {
            codes[length] = code;
            length++;
        }

        /** Reads as far as the characters fit; tells whether they are complete orders. */
        boolean read() {
            at = 0;
            orders = 0;
            while (orders < kinds.length) {
                if (!readOrder()) {
                    return false;
                }
                orders++;
                if (at >= length) {
                    return true;
                }
                if (!take(';')) {
                    return false;
                }
            }
            return false;
        }

        boolean readOrder() {
            int kind = kindAhead();
            if (kind == NONE || !takeWord(wordOf(kind))) {
                return false;
            }
            kinds[orders] = kind;
            if (kind == NEXT) {
                return true;
            }
            numbers[orders] = takeNumber(kind == ILL ? MOST_EXAMINERS - 1 : MOST_PUPILS - 1);
            if (numbers[orders] == NONE || kind != ILL) {
                return numbers[orders] != NONE;
            }
            if (!take('@')) {
                return false;
            }
            days[orders] = takeNumber(DAYS - 1);
            return days[orders] != NONE;
        }

        /** No two words begin alike, so the first letter tells which one is to come. */
        int kindAhead() {
            for (int kind = ASK; kind <= NEXT; kind++) {
                if (at < length && codes[at] == wordOf(kind).charAt(0)) {
                    return kind;
                }
            }
            return NONE;
        }

        static String wordOf(int kind) {
            switch (kind) {
                case ASK:
                    return "ask";
                case QUIT:
                    return "quit";
                case PASS:
                    return "pass";
                case FAIL:
                    return "fail";
                case ILL:
                    return "ill";
                default:
                    return "next";
            }
        }

        boolean take(int code) {
            if (at >= length || codes[at] != code) {
                return false;
            }
            at++;
            return true;
        }

        boolean takeWord(String word) {
            for (int i = 0; i < word.length(); i++) {
                if (!take(word.charAt(i))) {
                    return false;
                }
            }
            return true;
        }

        /** Takes a number from 0 to highest, which is below 100; NONE if there is none. */
        int takeNumber(int highest) {
            int first = digitAhead();
            if (first == NONE || first > highest) {
                return NONE;
            }
            at++;
            int second = digitAhead();
            if (first == 0 || second == NONE || 10 * first + second > highest) {
                return first;
            }
            at++;
            return 10 * first + second;
        }

        int digitAhead() {
            if (at >= length || codes[at] < '0' || codes[at] > '9') {
                return NONE;
            }
            return codes[at] - '0';
        }
    }
}
