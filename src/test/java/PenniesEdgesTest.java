/**
 * Promises 21 to 28 and the terms that they name, sentence by sentence: a method for each sentence that names an edge,
 * with the sentence ahead of it.
 */
public final class PenniesEdgesTest {
    private static final Due due = new Due("PenniesEdgesTest");
    private static final int MIN = Integer.MIN_VALUE, MAX = Integer.MAX_VALUE;
    private static final int UNKNOWN = PursesShare.UNKNOWN, OUTSIDE = PursesShare.OUTSIDE, STATE = PursesShare.STATE;
    private static final int FULL = PursesShare.FULL, NONE = PursesShare.NONE;
    private static final String TWO = "L0P0000P0000";
    private static final int[] NOBODY = {MIN, -1, 3, 4, 8, MAX}, NO_SUMS = {MIN, -1, 100000, 100001, MAX};

    public static void main(String[] args) {
        promise21Nothing();
        promise21All();
        promise21TheLeast();
        promise21Refused();
        promise22Sums();
        promise22Refused();
        promise22EightAtMost();
        promise23NothingIsSeen();
        promise24To();
        promise24SharedNothing();
        promise24TheLeastTheGreatest();
        promise24NoneOfBoth();
        promise24FitAllThat();
        promise24Refused();
        promise25ItHas();
        promise25EachOnceAtMost();
        promise25None();
        promise26OfAsFewTheFirst();
        promise26ThereIsNoneSuch();
        promise25And26Refused();
        promise27AllAre();
        promise27NotEmpty();
        promise28IsAPrime();
        promise28HowManyMore();
        promise28Refused();
        nothingIsChangedByAsking();
        due.end();
    }

    private static void pennies(int law, int mine, int theirs, int least) {
        PursesShare x = Texts.town(TWO, mine, theirs);
        x.law(law);
        due.is("21 by law " + law + " of " + mine + " for " + theirs, x.pennies(0, 1), least);
        PursesShare turned = Texts.town(TWO, theirs, mine);
        turned.law(law);
        due.is("21 turned, by law " + law + " of " + mine + " for " + theirs, turned.pennies(1, 0), least);
    }

    /** "the least x (0 ..)": nothing need be put by where nothing is lost */
    private static void promise21Nothing() {
        for (int law = 0; law < 4; law++) {
            for (int held : new int[] {0, 1, 99999}) {
                pennies(law, held, held, 0);
                pennies(law, held, 0, 0);
                pennies(law, 0, held, 0);
            }
            if (law != 1) pennies(law, 99998, 99999, 0);
        }
        pennies(1, 99999, 99998, 0);
        pennies(1, 99999, 1, 0);
        pennies(1, 2, 1, 0);
        pennies(2, 2, 1, 0);
        pennies(2, 99999, 99998, 0);
    }

    /** "(.. to what it has)" */
    private static void promise21All() {
        pennies(1, 1, 2, 1);
        pennies(1, 1, 99999, 1);
        pennies(1, 99998, 99999, 99998);
        pennies(1, 49999, 99998, 49999);
    }

    /** "so that it has no less then than it had (what is put by, too)" */
    private static void promise21TheLeast() {
        pennies(0, 2, 1, 1);
        pennies(0, 99999, 1, 99998);
        pennies(0, 99999, 99998, 1);
        pennies(3, 2, 1, 1);
        pennies(3, 99999, 1, 99998);
        // By LAW 2 it is enough that they share 1, or that both have as much.
        pennies(2, 4, 2, 1);
        pennies(2, 6, 2, 1);
        pennies(2, 8, 6, 1);
        pennies(2, 10, 6, 3);
        pennies(2, 9, 6, 2);
        pennies(2, 30030 + 2, 30030, 1);
        pennies(2, 30030 + 16, 30030, 15);
        pennies(2, 30030 + 17, 30030, 0);
        pennies(2, 99998, 49999, 1);
    }

    /** "UNKNOWN; STATE: both are one.", of several the first */
    private static void promise21Refused() {
        PursesShare x = Texts.town("L0P0012P0018P0000");
        for (int nobody : NOBODY) {
            due.is("21 with " + nobody, x.pennies(0, nobody), UNKNOWN);
            due.is("21 of " + nobody, x.pennies(nobody, 0), UNKNOWN);
            due.is("21 unknown ahead of state", x.pennies(nobody, nobody), UNKNOWN);
        }
        for (int person = 0; person < 3; person++) due.is("21 both are one", x.pennies(person, person), STATE);
    }

    /** "SEEN are sums b (1 to 99999) and g (0 to 99999)" */
    private static void promise22Sums() {
        PursesShare x = new PursesShare();
        due.is("22 the least of both", x.see(1, 0), 1);
        due.is("22 the greatest of both", x.see(99999, 99999), 2);
        due.is("22 the least b", x.see(1, 99999), 3);
        due.is("22 the least g", x.see(99999, 0), 4);
        due.is("22 as many", x.count(4), 4);
    }

    /** "OUTSIDE: b, g; FULL: 8.", of several the first; what is refused changes nothing */
    private static void promise22Refused() {
        PursesShare x = new PursesShare();
        for (int seen = 0; seen <= 8; seen += 8) {
            for (int wrong : NO_SUMS) {
                due.is("22 b of " + wrong, x.see(wrong, 1), OUTSIDE);
                due.is("22 g of " + wrong, x.see(1, wrong), OUTSIDE);
                due.is("22 both of " + wrong, x.see(wrong, wrong), OUTSIDE);
            }
            due.is("22 b of 0", x.see(0, 0), OUTSIDE);
            due.is("22 nothing came", x.count(4), seen);
            for (int i = 0; i < 8; i++) x.see(6, 2);
        }
        due.is("22 full", x.see(6, 2), FULL);
    }

    /** "8 at most" */
    private static void promise22EightAtMost() {
        PursesShare x = new PursesShare();
        for (int seen = 1; seen <= 8; seen++) due.is("22 see", x.see(1, 1), seen);
        for (int i = 0; i < 2; i++) due.is("22 one too many", x.see(1, 0), FULL);
        due.is("22 eight", x.count(4), 8);
        due.is("22 the ninth does not count", x.mayHold(10, 0), 10);
        // The eighth does.
        PursesShare last = new PursesShare();
        for (int i = 0; i < 7; i++) last.see(1, 1);
        last.see(7, 7);
        due.is("22 the eighth counts", last.mayHold(20, 0), 2);
        due.is("22 the first counts", last.mayHold(20, 1), 7);
    }

    /** "Nothing is SEEN: how much was." */
    private static void promise23NothingIsSeen() {
        PursesShare x = new PursesShare();
        due.is("23 nothing was", x.unsee(), 0);
        for (int i = 0; i < 8; i++) x.see(6, 2);
        due.is("23 eight were", x.unsee(), 8);
        due.is("23 nothing is", x.count(4), 0);
        due.is("23 nothing was", x.unsee(), 0);
        due.is("23 all fit", x.mayHold(99999, 0), 100000);
        due.is("23 there is room", x.see(5, 1), 1);
        due.is("23 that alone counts", x.mayHold(10, 0), 8);
        x.unsee();
        x.see(3, 1);
        due.is("23 this alone counts then", x.mayHold(10, 0), 7);
        x.unsee();
        due.is("23 none counts", x.mayHold(10, 0), 11);
    }

    private static void mayHold(PursesShare x, int n, int howMany, int least, int greatest) {
        due.is("24 how many to " + n, x.mayHold(n, 0), howMany);
        due.is("24 the least to " + n, x.mayHold(n, 1), least);
        due.is("24 the greatest to " + n, x.mayHold(n, 2), greatest);
    }

    private static PursesShare seen(int... sums) {
        PursesShare x = new PursesShare();
        for (int i = 0; i < sums.length; i += 2) due.is("24 see", x.see(sums[i], sums[i + 1]), i / 2 + 1);
        return x;
    }

    /** "how many PURSES, 0 to n (0 to 99999), fit all that" */
    private static void promise24To() {
        mayHold(seen(), 0, 1, 0, 0);
        mayHold(seen(), 1, 2, 0, 1);
        mayHold(seen(), 99999, 100000, 0, 99999);
        PursesShare x = seen(7, 7);
        mayHold(x, 6, 0, NONE, NONE);
        mayHold(x, 7, 1, 7, 7);
        mayHold(x, 13, 1, 7, 7);
        mayHold(x, 14, 2, 7, 14);
        mayHold(x, 99999, 14285, 7, 99995);
        mayHold(x, 6, 0, NONE, NONE);
    }

    /** "SHARED .. 0, if one has nothing": only an empty PURSE shared 0 */
    private static void promise24SharedNothing() {
        PursesShare empty = seen(1, 0, 99999, 0);
        mayHold(empty, 0, 1, 0, 0);
        mayHold(empty, 99999, 1, 0, 0);
        mayHold(seen(5, 0, 5, 1), 99999, 0, NONE, NONE);
        mayHold(seen(5, 5, 5, 0), 99999, 0, NONE, NONE);
        mayHold(seen(1, 1), 0, 0, NONE, NONE);
        mayHold(seen(1, 1), 1, 1, 1, 1);
        mayHold(seen(1, 1), 99999, 99999, 1, 99999);
    }

    /** "the least, the greatest" */
    private static void promise24TheLeastTheGreatest() {
        mayHold(seen(99999, 99999), 99999, 1, 99999, 99999);
        mayHold(seen(99999, 1), 1, 1, 1, 1);
        // 99999 is 9 times 41 times 271.
        mayHold(seen(99999, 1), 99999, 3 * 2 * 40 * 270, 1, 99998);
        mayHold(seen(99998, 1), 99998, 49998, 1, 99997);
        mayHold(seen(99999, 33333), 99999, 2, 33333, 66666);
        mayHold(seen(99999, 33333), 66665, 1, 33333, 33333);
        // Behind 30029 and 30031 the next that shares but 1 with 30030 is 30047.
        mayHold(seen(30030, 1), 30030, 5760, 1, 30029);
        mayHold(seen(30030, 1), 30046, 5760 + 1, 1, 30031);
        mayHold(seen(30030, 1), 30047, 5760 + 2, 1, 30047);
    }

    /** "NONE: none, of both" */
    private static void promise24NoneOfBoth() {
        mayHold(seen(99999, 99999), 99998, 0, NONE, NONE);
        mayHold(seen(5, 2), 99999, 0, NONE, NONE);
        mayHold(seen(5, 6), 99999, 0, NONE, NONE);
        mayHold(seen(1, 99999), 99999, 0, NONE, NONE);
        mayHold(seen(12, 4, 9, 3), 99999, 0, NONE, NONE);
        mayHold(seen(99991, 99991, 2, 2), 99999, 0, NONE, NONE);
    }

    /** "fit all that": each of 8, in any order */
    private static void promise24FitAllThat() {
        int[] primes = {2, 3, 5, 7, 11, 13, 17, 19};
        for (int last = 0; last < 8; last++) {
            PursesShare x = new PursesShare();
            for (int i = 1; i <= 8; i++) x.see(primes[(last + i) % 8], 1);
            mayHold(x, 22, 1, 1, 1);
            mayHold(x, 23, 2, 1, 23);
            mayHold(x, 29, 3, 1, 29);
        }
        mayHold(seen(2, 2, 3, 3, 5, 5, 7, 7, 11, 11, 13, 13), 99999, 3, 30030, 90090);
        mayHold(seen(2, 2, 3, 3, 5, 5, 7, 7, 11, 11, 13, 13, 17, 17), 99999, 0, NONE, NONE);
        // No prime up to 83 goes into it: 23 of them.
        PursesShare many = seen(30030, 1, 7429, 1, 33263, 1, 82861, 1, 3127, 1, 4087, 1, 5183, 1, 6557, 1);
        mayHold(many, 99999, 12146, 1, 99991);
        mayHold(many, 88, 1, 1, 1);
        mayHold(many, 89, 2, 1, 89);
        // 18 shares 6: a multiple of 6, though not of 9; and then 4 shares 4.
        mayHold(seen(18, 6, 4, 4), 60, 4, 12, 60);
    }

    /** "OUTSIDE: n, what.", and ahead of NONE */
    private static void promise24Refused() {
        for (PursesShare x : new PursesShare[] {seen(), seen(5, 2)}) {
            for (int n : NO_SUMS) {
                for (int what : new int[] {-1, 0, 1, 2, 3}) due.is("24 n of " + n, x.mayHold(n, what), OUTSIDE);
            }
            for (int what : new int[] {MIN, -1, 3, 4, MAX}) due.is("24 what " + what, x.mayHold(5, what), OUTSIDE);
        }
    }

    private static void ruin(PursesShare x, int person, int goal, int... row) {
        String told = " of " + person + " to " + goal;
        due.is("25 ruin" + told, x.ruin(person, goal), row.length);
        for (int k = 0; k < row.length; k++) due.is("26 ruin" + told + ", " + k, x.ruinAt(person, goal, k), row[k]);
        due.is("26 no more" + told, x.ruinAt(person, goal, row.length), NONE);
    }

    private static void never(PursesShare x, int person, int goal) {
        String told = " of " + person + " to " + goal;
        due.is("25 ruin" + told, x.ruin(person, goal), NONE);
        for (int k = -1; k < 8; k++) due.is("26 ruin" + told + ", " + k, x.ruinAt(person, goal, k), NONE);
    }

    /** "so that it has x or less (0: it has)" */
    private static void promise25ItHas() {
        PursesShare x = Texts.town("L0P0012P0001P0000");
        ruin(x, 0, 12);
        ruin(x, 0, 13);
        ruin(x, 0, 99999);
        ruin(x, 0, 11, 1);
        ruin(x, 2, 0);
        x.fill(0, 99999);
        ruin(x, 0, 99999);
        ruin(x, 0, 99998, 1);
        PursesShare less = Texts.town("L1P0006P0012");
        ruin(less, 0, 5, 1);
        ruin(less, 0, 0, 1);
    }

    /** "the fewest of the others that MEET it, one behind the other, each once at most" */
    private static void promise25EachOnceAtMost() {
        PursesShare x = Texts.town("L0P0100P0001P0001P0001P0001P0001P0001P0001");
        ruin(x, 0, 99, 1);
        ruin(x, 0, 98, 1, 2);
        ruin(x, 0, 94, 1, 2, 3, 4, 5, 6);
        ruin(x, 0, 93, 1, 2, 3, 4, 5, 6, 7);
        never(x, 0, 92);
        PursesShare last = Texts.town("L0P0001P0001P0001P0001P0001P0001P0001P0100");
        ruin(last, 7, 93, 0, 1, 2, 3, 4, 5, 6);
        never(last, 7, 92);
        PursesShare middle = Texts.town("L0P0001P0001P0100P0001");
        ruin(middle, 2, 97, 0, 1, 3);
        never(middle, 2, 96);
        // By LAW 1 it would be ruined by as much as it had; but it meets the others alone.
        PursesShare alone = Texts.town("L1P0012P0018");
        ruin(alone, 0, 6, 1);
        never(alone, 0, 5);
    }

    /** "NONE" */
    private static void promise25None() {
        never(Texts.town("L0P0010P0010"), 0, 9);
        never(Texts.town("L0P0010P0000"), 0, 9);
        never(Texts.town("L0P0010P0000"), 0, 0);
        never(Texts.town("L1P0010P0009"), 0, 9);
        never(Texts.town("L2P0010P0009"), 0, 9);
        never(Texts.town("L0P0002P0001P0001P0001"), 0, 0);
        PursesShare full = Texts.town(TWO, 99999, 99999);
        never(full, 0, 99998);
    }

    /** "of as few the first row (by the first of them, then the second ..)" */
    private static void promise26OfAsFewTheFirst() {
        // One alone is fewer than two, be it the last one.
        ruin(Texts.town("L0P0012P0001P0001P0006"), 0, 10, 3);
        ruin(Texts.town("L0P0012P0004P0006P0004"), 0, 8, 1);
        // 12 with 6 leaves 6, and 4 leaves 4 then; 12 with 4 leaves 8, and 6 leaves 6 then.
        ruin(Texts.town("L0P0012P0004P0006"), 0, 4, 2, 1);
        ruin(Texts.town("L0P0012P0004P0006"), 0, 6, 2);
        ruin(Texts.town("L0P0012P0004P0006P0006"), 0, 4, 2, 1);
        ruin(Texts.town("L0P0020P0010P0005P0010P0005"), 0, 5, 1, 2);
        ruin(Texts.town("L1P0012P0024P0018"), 0, 0, 1);
        ruin(Texts.town("L1P0012P0018P0024"), 0, 0, 2);
    }

    /** "The k-th of them (from 0); NONE: there is none such." */
    private static void promise26ThereIsNoneSuch() {
        PursesShare x = Texts.town("L0P0100P0001P0001P0001P0001P0001P0001P0001");
        due.is("26 the last", x.ruinAt(0, 93, 6), 7);
        for (int k : new int[] {MIN, -1, 7, 8, MAX}) due.is("26 of seven, " + k, x.ruinAt(0, 93, k), NONE);
        for (int k : new int[] {MIN, -1, 1, 2, 7, MAX}) due.is("26 of one, " + k, x.ruinAt(0, 99, k), NONE);
        for (int k : new int[] {MIN, -1, 0, 1, 7, MAX}) due.is("26 it has, " + k, x.ruinAt(0, 100, k), NONE);
        for (int k : new int[] {MIN, -1, 0, 1, 7, MAX}) due.is("26 never, " + k, x.ruinAt(0, 92, k), NONE);
    }

    /** "UNKNOWN; OUTSIDE: x (0 to 99999).", of several the first, and ahead of NONE */
    private static void promise25And26Refused() {
        PursesShare x = Texts.town("L0P0012P0018P0000");
        for (int goal : NO_SUMS) {
            for (int person = 0; person < 3; person++) due.is("25 to " + goal, x.ruin(person, goal), OUTSIDE);
            for (int nobody : NOBODY) due.is("25 unknown ahead of outside", x.ruin(nobody, goal), UNKNOWN);
            for (int k : new int[] {MIN, -1, 0, 7, MAX}) {
                due.is("26 to " + goal, x.ruinAt(0, goal, k), OUTSIDE);
                due.is("26 unknown ahead of outside", x.ruinAt(3, goal, k), UNKNOWN);
            }
        }
        for (int nobody : NOBODY) {
            due.is("25 of " + nobody, x.ruin(nobody, 0), UNKNOWN);
            due.is("26 of " + nobody, x.ruinAt(nobody, 99999, 0), UNKNOWN);
        }
    }

    /** "0: all are" */
    private static void promise27AllAre() {
        due.is("27 of two", new PursesShare().coin(), 0);
        due.is("27 of eight", Texts.town("L0" + "P0000".repeat(8)).coin(), 0);
        PursesShare ruined = Texts.town("L0P0005P0000");
        ruined.fill(0, 0);
        due.is("27 filled with nothing", ruined.coin(), 0);
    }

    /** "all PURSES that are not empty" */
    private static void promise27NotEmpty() {
        for (int person = 0; person < 8; person++) {
            PursesShare x = Texts.town("L0" + "P0000".repeat(8));
            x.fill(person, 99999);
            due.is("27 one of eight", x.coin(), 99999);
            x.fill((person + 3) % 8, 66666);
            due.is("27 two of eight", x.coin(), 33333);
            x.fill((person + 6) % 8, 1);
            due.is("27 a penny among them", x.coin(), 1);
        }
        PursesShare x = Texts.town("L0P0006P0004P0009");
        due.is("27 two by two they share more", x.coin(), 1);
        // Who was in a greater TOWN does not count.
        x.wipe();
        Texts.put(x, "L0P0006P0004");
        x.town();
        due.is("27 who is left", x.coin(), 2);
    }

    private static void charm(int held, int more) {
        due.is("28 of " + held, Texts.town(TWO, 5, held).charm(1), more);
    }

    /** "(0: it is one)" */
    private static void promise28IsAPrime() {
        for (int prime : new int[] {2, 3, 5, 7, 11, 13, 97, 31397, 65537, 99989, 99991}) charm(prime, 0);
    }

    /** "how many pennies more make a PURSE a prime" */
    private static void promise28HowManyMore() {
        charm(0, 2);
        charm(1, 1);
        charm(4, 1);
        charm(6, 1);
        charm(8, 3);
        charm(9, 2);
        charm(25, 4);
        charm(49, 4);
        charm(31398, 71);
        charm(99856, 3);
        // Behind 99991 the next one, 100003, is more than a PURSE can hold.
        charm(99990, 1);
        charm(99992, 11);
        charm(99998, 5);
        charm(99999, 4);
    }

    /** "UNKNOWN." */
    private static void promise28Refused() {
        PursesShare x = Texts.town("L0P0012P0018P0000");
        for (int nobody : NOBODY) due.is("28 of " + nobody, x.charm(nobody), UNKNOWN);
        due.is("28 of the last", x.charm(2), 2);
    }

    /** What only asks changes no PURSE, no row, nothing that is SEEN. */
    private static void nothingIsChangedByAsking() {
        PursesShare x = Texts.town("L1P0012P0018P0035");
        x.meet(0, 1);
        x.see(5, 5);
        x.pennies(0, 1);
        x.mayHold(99999, 1);
        x.ruin(2, 0);
        x.ruinAt(2, 34, 0);
        x.coin();
        x.charm(0);
        due.is("21 first", x.purse(0), 6);
        due.is("21 second", x.purse(1), 24);
        due.is("21 third", x.purse(2), 35);
        due.is("21 seen", x.count(4), 1);
        due.is("21 the row", x.back(), 0);
        due.is("21 as it was", x.purse(0), 12);
    }
}
