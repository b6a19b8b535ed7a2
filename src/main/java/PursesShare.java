import java.util.Arrays;

/**
 * People with purses who lay down, when two meet, the greatest sum that goes evenly into what each has.
 * The document ../shared/DOC.md says what every call answers; words in capitals here are its terms.
 */
public final class PursesShare {
    public static final int UNKNOWN = -1, OUTSIDE = -2, STATE = -3, FULL = -4, NONE = -9;

    private static final int MOST_HELD = 99999;
    private static final int MOST_PEOPLE = 8, FEWEST_PEOPLE = 2;
    private static final int LAWS = 4;
    private static final int LESS_GETS = 0, MORE_GETS = 1, LESS_GETS_HALF = 2, LESS_GETS_OFTEN = 3;
    private static final int TEXT_LIMIT = 96, WRITE_LIMIT = 8;
    private static final int DAILY_LIMIT = 16, MADE_LIMIT = 32, SEEN_LIMIT = 8;
    private static final int TIMES_LIMIT = 999999999, DAYS_LIMIT = 300;
    private static final int ORDER_LIMIT = 6;
    private static final int SLOTS = 2;
    private static final int MEETING_ANSWER = 100000;
    /** Six: with the seventh prime the product of the first ones is above every sum that is taken apart here. */
    private static final int PRIMES_LIMIT = 6;
    /** For loops whose end the document does not tell: far above what any of them needs. */
    private static final int TURNS = 1000000;

    private final TownText text = new TownText();
    private final Meetings theDay = new Meetings();
    private final Holding now = new Holding();
    private final Holding firstSlot = new Holding();
    private final Holding secondSlot = new Holding();
    private final int[] laterPurses = new int[MOST_PEOPLE];
    private final TwoPurses two = new TwoPurses();
    private final DaySearch days = new DaySearch();
    private final OrderSearch orders = new OrderSearch();
    private final RuinSearch ruins = new RuinSearch();
    private final SeenSearch fits = new SeenSearch();

    public PursesShare() {
        now.people = FEWEST_PEOPLE;
    }

    // ---- the town

    public int write(int n, long v) {
        if (n < 1 || n > WRITE_LIMIT) return OUTSIDE;
        if (text.length + n > TEXT_LIMIT) return FULL;
        for (int left = n - 1; left >= 0; left--) text.add((int) (v >>> (8 * left)) & 255);
        return text.length;
    }

    public int wipe() {
        int was = text.length;
        text.length = 0;
        return was;
    }

    public int fault() {
        return text.findFault();
    }

    public int town() {
        if (text.findFault() != NONE) return STATE;
        now.beginTown(text);
        theDay.become(text.meetings);
        firstSlot.filled = false;
        secondSlot.filled = false;
        return now.people;
    }

    public int purse(int person) {
        if (!now.isPerson(person)) return UNKNOWN;
        return now.purses[person];
    }

    public int fill(int person, int v) {
        if (!now.isPerson(person)) return UNKNOWN;
        if (!isSum(v)) return OUTSIDE;
        int was = now.purses[person];
        now.purses[person] = v;
        now.made = 0;
        return was;
    }

    public int law(int k) {
        if (k < 0 || k >= LAWS) return OUTSIDE;
        int was = now.lawNumber;
        now.lawNumber = k;
        return was;
    }

    public int daily(int i, int what) {
        if (what < 0 || what > 1) return OUTSIDE;
        if (!theDay.has(i)) return NONE;
        return what == 0 ? theDay.firsts[i] : theDay.seconds[i];
    }

    // ---- meetings

    public int shared(int person, int other) {
        int refusal = refusalOfTwo(person, other);
        if (refusal != 0) return refusal;
        return sharedBy(now.purses[person], now.purses[other]);
    }

    public int meet(int person, int other) {
        int refusal = refusalOfTwo(person, other);
        if (refusal != 0) return refusal;
        if (now.made >= MADE_LIMIT) return FULL;
        int had = now.purses[person];
        now.addMeeting(person, other);
        return now.purses[person] - had + MEETING_ANSWER;
    }

    public int back() {
        if (now.made < 1) return STATE;
        now.takeBack();
        return now.made;
    }

    public int day() {
        now.made = 0;
        return theDay.makeAll(now.purses, now.lawNumber);
    }

    public int after(int person, int other, int n) {
        if (!now.isPerson(person) || !now.isPerson(other)) return UNKNOWN;
        if (n < 0 || n > TIMES_LIMIT) return OUTSIDE;
        if (person == other) return STATE;
        two.begin(now.lawNumber, now.purses[person], now.purses[other]);
        int left = n - two.makeToRing(n);
        // A ring is of one or of two, so only an odd rest of meetings can show.
        if (left % 2 == 1) two.makeAlike(1);
        return two.mine;
    }

    public int ring(int person, int other) {
        int refusal = refusalOfTwo(person, other);
        if (refusal != 0) return refusal;
        two.begin(now.lawNumber, now.purses[person], now.purses[other]);
        two.makeToRing(TIMES_LIMIT);
        return two.ringLength();
    }

    public int lead(int person, int other) {
        int refusal = refusalOfTwo(person, other);
        if (refusal != 0) return refusal;
        two.begin(now.lawNumber, now.purses[person], now.purses[other]);
        return two.makeToRing(TIMES_LIMIT);
    }

    public int later(int person, int n) {
        if (!now.isPerson(person)) return UNKNOWN;
        if (n < 0 || n > DAYS_LIMIT) return OUTSIDE;
        System.arraycopy(now.purses, 0, laterPurses, 0, MOST_PEOPLE);
        int changes = 1;
        for (int done = 0; done < n && changes > 0; done++) changes = theDay.makeAll(laterPurses, now.lawNumber);
        return laterPurses[person];
    }

    public int dayRing(boolean lead) {
        days.find(now, theDay);
        return lead ? days.leadDays : days.ringDays;
    }

    public int most(int person) {
        if (!now.isPerson(person)) return UNKNOWN;
        if (theDay.size > ORDER_LIMIT) return STATE;
        orders.find(now, theDay, person);
        return orders.bestHeld;
    }

    public int mostAt(int person, int k) {
        if (!now.isPerson(person)) return UNKNOWN;
        if (theDay.size > ORDER_LIMIT) return STATE;
        if (!theDay.has(k)) return NONE;
        orders.find(now, theDay, person);
        return orders.best[k];
    }

    // ---- pennies, purses that were, ruin

    public int pennies(int person, int other) {
        int refusal = refusalOfTwo(person, other);
        if (refusal != 0) return refusal;
        int mine = now.purses[person];
        int theirs = now.purses[other];
        int apart = mine - theirs;
        if (mine == 0 || theirs == 0) return 0;
        if (now.lawNumber == MORE_GETS) return apart < 0 ? mine : 0;
        if (apart <= 0) return 0;
        return now.lawNumber == LESS_GETS_HALF ? penniesToShareOne(mine, theirs) : apart;
    }

    public int see(int b, int g) {
        if (b < 1 || b > MOST_HELD || !isSum(g)) return OUTSIDE;
        if (now.seen >= SEEN_LIMIT) return FULL;
        now.addSeen(b, g);
        return now.seen;
    }

    public int unsee() {
        int was = now.seen;
        now.seen = 0;
        return was;
    }

    public int mayHold(int n, int what) {
        if (!isSum(n) || what < 0 || what > 2) return OUTSIDE;
        fits.find(now, n);
        if (what == 0) return fits.howMany;
        return what == 1 ? fits.least : fits.greatest;
    }

    public int ruin(int person, int x) {
        if (!now.isPerson(person)) return UNKNOWN;
        if (!isSum(x)) return OUTSIDE;
        ruins.find(now, person, x);
        return ruins.isFound() ? ruins.fewest : NONE;
    }

    public int ruinAt(int person, int x, int k) {
        if (!now.isPerson(person)) return UNKNOWN;
        if (!isSum(x)) return OUTSIDE;
        ruins.find(now, person, x);
        if (!ruins.isFound() || k < 0 || k >= ruins.fewest) return NONE;
        return ruins.best[k];
    }

    public int coin() {
        int all = 0;
        for (int person = 0; person < now.people; person++) all = greatestDivisor(all, now.purses[person]);
        return all;
    }

    public int charm(int person) {
        if (!now.isPerson(person)) return UNKNOWN;
        int more = 0;
        while (more < TURNS && !isPrime(now.purses[person] + more)) more++;
        return more;
    }

    // ---- slots

    public int keep(int slot) {
        if (slot < 0 || slot >= SLOTS) return UNKNOWN;
        slotAt(slot).become(now);
        return now.made;
    }

    public int again(int slot) {
        if (slot < 0 || slot >= SLOTS) return UNKNOWN;
        Holding kept = slotAt(slot);
        if (!kept.filled) return STATE;
        now.become(kept);
        return now.made;
    }

    public int count(int what) {
        switch (what) {
            case 0: return text.length;
            case 1: return now.people;
            case 2: return theDay.size;
            case 3: return now.made;
            case 4: return now.seen;
            case 5: return now.sumOfPurses();
            case 6: return now.lawNumber;
            default: return OUTSIDE;
        }
    }

    // ---- what the calls share

    private int refusalOfTwo(int person, int other) {
        if (!now.isPerson(person) || !now.isPerson(other)) return UNKNOWN;
        return person == other ? STATE : 0;
    }

    private Holding slotAt(int slot) {
        return slot == 0 ? firstSlot : secondSlot;
    }

    private static boolean isSum(int value) {
        return value >= 0 && value <= MOST_HELD;
    }

    /** 0 counts as what everything goes into, so the divisor of 0 and x is x. */
    private static int greatestDivisor(int one, int other) {
        int greater = one;
        int less = other;
        for (int turn = 0; turn < TURNS && less > 0; turn++) {
            int rest = greater % less;
            greater = less;
            less = rest;
        }
        return greater;
    }

    private static int sharedBy(int one, int other) {
        return one == 0 || other == 0 ? 0 : greatestDivisor(one, other);
    }

    private static boolean isPrime(int number) {
        if (number < 2) return false;
        for (int divisor = 2; divisor * divisor <= number; divisor++) {
            if (number % divisor == 0) return false;
        }
        return true;
    }

    /** Puts the unlike primes of a number into a row: how many there are. */
    private static int takeApart(int number, int[] primes) {
        int found = 0;
        int rest = number;
        for (int divisor = 2; divisor * divisor <= rest; divisor++) {
            if (rest % divisor != 0) continue;
            if (found < primes.length) primes[found++] = divisor;
            for (int turn = 0; turn < TURNS && rest > 1 && rest % divisor == 0; turn++) rest /= divisor;
        }
        if (rest > 1 && found < primes.length) primes[found++] = rest;
        return found;
    }

    /** What goes from one purse to the other in a MEETING of two who have unlike sums, neither of them nothing. */
    private static int sumPassed(int lawNumber, int apart, int sharedSum) {
        if (lawNumber == LESS_GETS_HALF) return sharedSum / 2;
        if (lawNumber == LESS_GETS_OFTEN && sharedSum > 0) return sharedSum * Math.max(1, apart / sharedSum / 2);
        return sharedSum;
    }

    /** What I have behind so many MEETINGS that all pass the same sum the same way. */
    private static int heldAfter(int lawNumber, int mine, int theirs, int sharedSum, int times) {
        if (mine == theirs || sharedSum == 0) return mine;
        int sum = times * sumPassed(lawNumber, Math.abs(mine - theirs), sharedSum);
        boolean gets = (mine > theirs) == (lawNumber == MORE_GETS);
        return gets ? Math.min(MOST_HELD, mine + sum) : mine - sum;
    }

    private static int heldAfterOne(int lawNumber, int mine, int theirs) {
        return heldAfter(lawNumber, mine, theirs, sharedBy(mine, theirs), 1);
    }

    /** Whether a PURSE is changed by it. Both are people: the callers looked. */
    private static boolean makeMeeting(int[] purses, int lawNumber, int person, int other) {
        int mine = purses[person];
        int theirs = purses[other];
        int sharedSum = sharedBy(mine, theirs);
        purses[person] = heldAfter(lawNumber, mine, theirs, sharedSum, 1);
        purses[other] = heldAfter(lawNumber, theirs, mine, sharedSum, 1);
        return purses[person] != mine || purses[other] != theirs;
    }

    /** By LAW 2 who has more loses nothing only as an equal or where SHARED is 1, half of which is nothing. */
    private static int penniesToShareOne(int mine, int theirs) {
        int by = 0;
        while (by < mine - theirs && greatestDivisor(mine - by, theirs) > 1) by++;
        return by;
    }

    /** MEETINGS of people in an order: those of THE DAY, or those that a TEXT tells. */
    private static final class Meetings {
        private final int[] firsts = new int[DAILY_LIMIT];
        private final int[] seconds = new int[DAILY_LIMIT];
        private int size;

        private boolean has(int i) {
            return i >= 0 && i < size;
        }

        private void add(int first, int second) {
            if (size >= DAILY_LIMIT) return;
            firsts[size] = first;
            seconds[size] = second;
            size++;
        }

        private void become(Meetings from) {
            System.arraycopy(from.firsts, 0, firsts, 0, DAILY_LIMIT);
            System.arraycopy(from.seconds, 0, seconds, 0, DAILY_LIMIT);
            size = from.size;
        }

        private boolean makeOne(int i, int[] purses, int lawNumber) {
            return makeMeeting(purses, lawNumber, firsts[i], seconds[i]);
        }

        /** How many of them changed a PURSE. */
        private int makeAll(int[] purses, int lawNumber) {
            int changes = 0;
            for (int i = 0; i < size; i++) {
                if (makeOne(i, purses, lawNumber)) changes++;
            }
            return changes;
        }
    }

    /** THE TEXT, and the TOWN that the last reading of it found. */
    private static final class TownText {
        private final int[] bytes = new int[TEXT_LIMIT];
        private int length;
        private int place;
        private int lawNumber;
        private int people;
        private final int[] purses = new int[MOST_PEOPLE];
        private final Meetings meetings = new Meetings();

        private void add(int value) {
            if (length < TEXT_LIMIT) bytes[length++] = value;
        }

        /** The place where the reading stops is the FAULT, be there a wrong byte or none yet. */
        private int findFault() {
            place = 0;
            people = 0;
            meetings.size = 0;
            boolean fits = readLaw();
            for (int part = 0; part < TEXT_LIMIT && fits && place < length; part++) fits = readPart();
            return fits && people >= FEWEST_PEOPLE ? NONE : place;
        }

        private boolean readLaw() {
            if (!nextIs('L')) return false;
            place++;
            lawNumber = readFigure(LAWS);
            return lawNumber >= 0;
        }

        private boolean readPart() {
            if (nextIs('P') && people < MOST_PEOPLE) return readPerson();
            if (nextIs('M') && people >= FEWEST_PEOPLE && meetings.size < DAILY_LIMIT) return readMeeting();
            return false;
        }

        private boolean readPerson() {
            place++;
            int held = 0;
            for (int i = 0; i < 4; i++) {
                int figure = readFigure(10);
                if (figure < 0) return false;
                held = held * 10 + figure;
            }
            purses[people++] = held;
            return true;
        }

        private boolean readMeeting() {
            place++;
            int first = readFigure(people);
            if (first < 0) return false;
            if (nextIs('0' + first)) return false;
            int second = readFigure(people);
            if (second < 0) return false;
            meetings.add(first, second);
            return true;
        }

        private boolean nextIs(int value) {
            return place < length && bytes[place] == value;
        }

        /** Goes on only behind a figure that is less than told; -1: there is none such. */
        private int readFigure(int below) {
            int figure = place < length ? bytes[place] - '0' : -1;
            if (figure < 0 || figure >= below) return -1;
            place++;
            return figure;
        }
    }

    /** What a SLOT can keep, and what the object has now. */
    private static final class Holding {
        private boolean filled;
        private int people;
        private int lawNumber;
        private final int[] purses = new int[MOST_PEOPLE];
        private int made;
        private final int[] firsts = new int[MADE_LIMIT];
        private final int[] seconds = new int[MADE_LIMIT];
        private final int[] firstsHad = new int[MADE_LIMIT];
        private final int[] secondsHad = new int[MADE_LIMIT];
        private int seen;
        private final int[] seenSums = new int[SEEN_LIMIT];
        private final int[] seenShared = new int[SEEN_LIMIT];

        private boolean isPerson(int person) {
            return person >= 0 && person < people;
        }

        private void beginTown(TownText text) {
            people = text.people;
            lawNumber = text.lawNumber;
            System.arraycopy(text.purses, 0, purses, 0, MOST_PEOPLE);
            made = 0;
            seen = 0;
        }

        private void become(Holding from) {
            filled = true;
            people = from.people;
            lawNumber = from.lawNumber;
            System.arraycopy(from.purses, 0, purses, 0, MOST_PEOPLE);
            made = from.made;
            System.arraycopy(from.firsts, 0, firsts, 0, MADE_LIMIT);
            System.arraycopy(from.seconds, 0, seconds, 0, MADE_LIMIT);
            System.arraycopy(from.firstsHad, 0, firstsHad, 0, MADE_LIMIT);
            System.arraycopy(from.secondsHad, 0, secondsHad, 0, MADE_LIMIT);
            seen = from.seen;
            System.arraycopy(from.seenSums, 0, seenSums, 0, SEEN_LIMIT);
            System.arraycopy(from.seenShared, 0, seenShared, 0, SEEN_LIMIT);
        }

        /** What both had is noted, as a MEETING can't be reckoned backwards where something was lost. */
        private void addMeeting(int person, int other) {
            if (made >= MADE_LIMIT) return;
            firsts[made] = person;
            seconds[made] = other;
            firstsHad[made] = purses[person];
            secondsHad[made] = purses[other];
            made++;
            makeMeeting(purses, lawNumber, person, other);
        }

        private void takeBack() {
            if (made < 1) return;
            made--;
            purses[firsts[made]] = firstsHad[made];
            purses[seconds[made]] = secondsHad[made];
        }

        private void addSeen(int sum, int sharedSum) {
            if (seen >= SEEN_LIMIT) return;
            seenSums[seen] = sum;
            seenShared[seen] = sharedSum;
            seen++;
        }

        private int sumOfPurses() {
            int sum = 0;
            for (int person = 0; person < people; person++) sum += purses[person];
            return sum;
        }
    }

    /**
     * Two who MEET again and again. By LAW 0 and 3 what they are apart shrinks until they are equals or
     * apart by SHARED, and then they change places for ever; by LAW 2 it shrinks until they are equals or
     * share 1; by LAW 1 one loses all. So a RING is of one or of two MEETINGS, and where it begins can be
     * seen from what both have.
     */
    private static final class TwoPurses {
        private int lawNumber;
        private int mine;
        private int theirs;
        private int sharedSum;
        private final int[] primes = new int[PRIMES_LIMIT];

        private void begin(int withLaw, int first, int second) {
            lawNumber = withLaw;
            mine = first;
            theirs = second;
            sharedSum = sharedBy(first, second);
        }

        private boolean isStill() {
            if (mine == theirs || sharedSum == 0) return true;
            return lawNumber == LESS_GETS_HALF && sharedSum == 1;
        }

        private boolean changesPlaces() {
            if (isStill() || Math.abs(mine - theirs) != sharedSum) return false;
            return lawNumber == LESS_GETS || lawNumber == LESS_GETS_OFTEN;
        }

        private int ringLength() {
            return changesPlaces() ? 2 : 1;
        }

        /** Makes n MEETINGS, or fewer if the RING is reached ahead of that: how many were made. */
        private int makeToRing(int n) {
            int made = 0;
            for (int turn = 0; turn < TURNS && made < n && !isStill() && !changesPlaces(); turn++) {
                int times = Math.min(n - made, countAlike());
                makeAlike(times);
                made += times;
            }
            return made;
        }

        private void makeAlike(int times) {
            int mineThen = heldAfter(lawNumber, mine, theirs, sharedSum, times);
            theirs = heldAfter(lawNumber, theirs, mine, sharedSum, times);
            mine = mineThen;
            sharedSum = sharedBy(mine, theirs);
        }

        /** How many MEETINGS from here on pass the same sum the same way (it may tell fewer). */
        private int countAlike() {
            if (lawNumber == LESS_GETS) {
                int more = Math.max(mine, theirs);
                return countSameShared(more, mine + theirs, Math.abs(mine - theirs) / 2);
            }
            if (lawNumber == MORE_GETS) {
                int less = Math.min(mine, theirs);
                int more = Math.max(mine, theirs);
                if (more == MOST_HELD) return countSameShared(less, MOST_HELD, less);
                return countSameShared(less, mine + theirs, MOST_HELD - more);
            }
            return 1;
        }

        /**
         * One purse loses SHARED by every MEETING, up to room in all, while the whole (both purses, or a
         * full one) stays. SHARED is what goes into the losing purse and the whole; it stays too, until
         * the purse, told in SHARED, has a prime of the whole in it.
         */
        private int countSameShared(int losing, int whole, int room) {
            if (sharedSum < 1) return 1;
            int times = room / sharedSum;
            int found = takeApart(whole / sharedSum, primes);
            for (int i = 0; i < found; i++) {
                if (primes[i] > 1) times = Math.min(times, losing / sharedSum % primes[i]);
            }
            return Math.max(1, times);
        }
    }

    /** DAY RING and DAY LEAD: the purses behind every DAY stand in a row, one behind the other. */
    private static final class DaySearch {
        private final int[] rows = new int[(DAYS_LIMIT + 1) * MOST_PEOPLE];
        private final int[] purses = new int[MOST_PEOPLE];
        private int ringDays;
        private int leadDays;

        private void find(Holding from, Meetings theDay) {
            ringDays = NONE;
            leadDays = NONE;
            System.arraycopy(from.purses, 0, purses, 0, MOST_PEOPLE);
            System.arraycopy(purses, 0, rows, 0, MOST_PEOPLE);
            for (int done = 1; done <= DAYS_LIMIT && leadDays == NONE; done++) {
                theDay.makeAll(purses, from.lawNumber);
                noteIfHadBefore(done, from.people);
                System.arraycopy(purses, 0, rows, done * MOST_PEOPLE, MOST_PEOPLE);
            }
        }

        private void noteIfHadBefore(int done, int people) {
            for (int before = done - 1; before >= 0; before--) {
                if (!wereHad(before, people)) continue;
                leadDays = before;
                ringDays = done - before;
                return;
            }
        }

        private boolean wereHad(int before, int people) {
            for (int person = 0; person < people; person++) {
                if (rows[before * MOST_PEOPLE + person] != purses[person]) return false;
            }
            return true;
        }
    }

    /** BEST ORDER: all orders are tried, the first ones first, and only a better one takes the place. */
    private static final class OrderSearch {
        private final int[] purses = new int[MOST_PEOPLE];
        private final boolean[] used = new boolean[ORDER_LIMIT];
        private final int[] order = new int[ORDER_LIMIT];
        private final int[] best = new int[ORDER_LIMIT];
        private int bestHeld;
        private int person;
        private int lawNumber;
        private int size;

        private void find(Holding from, Meetings theDay, int forPerson) {
            System.arraycopy(from.purses, 0, purses, 0, MOST_PEOPLE);
            person = forPerson;
            lawNumber = from.lawNumber;
            size = Math.min(theDay.size, ORDER_LIMIT);
            bestHeld = -1;
            goOn(0, theDay);
        }

        private void goOn(int depth, Meetings theDay) {
            if (depth >= size) {
                noteIfBetter();
                return;
            }
            for (int i = 0; i < size; i++) {
                if (!used[i]) tryNext(i, depth, theDay);
            }
        }

        private void tryNext(int i, int depth, Meetings theDay) {
            int first = theDay.firsts[i];
            int second = theDay.seconds[i];
            int firstHad = purses[first];
            int secondHad = purses[second];
            used[i] = true;
            order[depth] = i;
            makeMeeting(purses, lawNumber, first, second);
            goOn(depth + 1, theDay);
            purses[first] = firstHad;
            purses[second] = secondHad;
            used[i] = false;
        }

        private void noteIfBetter() {
            if (purses[person] <= bestHeld) return;
            bestHeld = purses[person];
            System.arraycopy(order, 0, best, 0, ORDER_LIMIT);
        }
    }

    /**
     * RUIN: all rows of the others are tried, the first ones first, and only a shorter one takes the place.
     * Those that were sent are bits of a number. Where the same ones were sent in another order ahead of
     * this, and left as much, what could come behind them was tried then: the last such sum of each is noted.
     */
    private static final class RuinSearch {
        private final int[] lastHeld = new int[1 << MOST_PEOPLE];
        private final int[] row = new int[MOST_PEOPLE];
        private final int[] best = new int[MOST_PEOPLE];
        private int fewest;
        private int people;
        private int goal;

        private void find(Holding from, int person, int x) {
            people = from.people;
            goal = x;
            // As many as all people is one more than there are others: none was found.
            fewest = people;
            Arrays.fill(lastHeld, -1);
            goOn(0, 1 << person, from.purses[person], from);
        }

        private boolean isFound() {
            return fewest < people;
        }

        private void goOn(int depth, int used, int held, Holding from) {
            if (held <= goal) {
                fewest = depth;
                System.arraycopy(row, 0, best, 0, MOST_PEOPLE);
                return;
            }
            for (int other = 0; other < people && depth + 1 < fewest; other++) {
                if ((used >> other & 1) == 0) trySending(other, depth, used | 1 << other, held, from);
            }
        }

        private void trySending(int other, int depth, int used, int held, Holding from) {
            int then = heldAfterOne(from.lawNumber, held, from.purses[other]);
            if (lastHeld[used] == then) return;
            lastHeld[used] = then;
            row[depth] = other;
            goOn(depth + 1, used, then, from);
        }
    }

    /**
     * MAY HOLD. A purse p shares g with b if g goes into b and p, and no prime of b / g goes into p / g.
     * So p is a multiple of all those g, of the least one that there is (the unit), and, told in units,
     * it has none of certain primes in it.
     */
    private static final class SeenSearch {
        private final int[] primes = new int[SEEN_LIMIT * PRIMES_LIMIT];
        private final int[] some = new int[PRIMES_LIMIT];
        private int found;
        private int unit;
        private int howMany;
        private int least;
        private int greatest;

        private void find(Holding from, int n) {
            howMany = 0;
            least = NONE;
            greatest = NONE;
            int empty = countSharedNothing(from);
            if (empty == from.seen) noteEmptyPurse(from.seen == 0 ? n : 0);
            else if (empty == 0 && findUnit(from, n) && findPrimes(from)) noteMultiples(n / unit);
        }

        private static int countSharedNothing(Holding from) {
            int nothing = 0;
            for (int i = 0; i < from.seen; i++) {
                if (from.seenShared[i] == 0) nothing++;
            }
            return nothing;
        }

        /** Only an empty purse shares 0 with somebody who has something; where nothing is SEEN, all fit. */
        private void noteEmptyPurse(int upTo) {
            howMany = upTo + 1;
            least = 0;
            greatest = upTo;
        }

        private boolean findUnit(Holding from, int n) {
            unit = 1;
            for (int i = 0; i < from.seen; i++) {
                int sharedSum = from.seenShared[i];
                if (sharedSum < 1 || from.seenSums[i] % sharedSum != 0) return false;
                int common = greatestDivisor(unit, sharedSum);
                if (common < 1) return false;
                long both = (long) unit / common * sharedSum;
                if (both > n) return false;
                unit = (int) both;
            }
            return unit > 0;
        }

        private boolean findPrimes(Holding from) {
            found = 0;
            for (int i = 0; i < from.seen; i++) {
                int sharedSum = from.seenShared[i];
                if (sharedSum < 1) return false;
                int many = takeApart(from.seenSums[i] / sharedSum, some);
                for (int k = 0; k < many; k++) {
                    if (some[k] < 2 || unit / sharedSum % some[k] == 0) return false;
                    addPrime(some[k]);
                }
            }
            return true;
        }

        private void addPrime(int prime) {
            for (int i = 0; i < found; i++) {
                if (primes[i] == prime) return;
            }
            if (found < primes.length) primes[found++] = prime;
        }

        private void noteMultiples(int units) {
            if (units < 1) return;
            howMany = countFree(units, primes, found, 0);
            least = unit;
            int last = units;
            while (last > 1 && !isFree(last)) last--;
            greatest = unit * last;
        }

        private boolean isFree(int units) {
            for (int i = 0; i < found; i++) {
                if (primes[i] > 1 && units % primes[i] == 0) return false;
            }
            return true;
        }

        /** How many of 1 to upTo none of the first primes goes into: those whose last such prime is k fall out. */
        private static int countFree(int upTo, int[] primes, int first, int depth) {
            // Unlike primes whose product is 99999 at most are six, so nothing goes deeper.
            if (depth > PRIMES_LIMIT) return 0;
            int free = upTo;
            for (int k = 0; k < first; k++) {
                if (primes[k] > 1 && primes[k] <= upTo) free -= countFree(upTo / primes[k], primes, k, depth + 1);
            }
            return free;
        }
    }
}
