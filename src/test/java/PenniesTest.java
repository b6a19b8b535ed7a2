/** Promises 21 to 28: pennies put by, what is seen, ruin, the coin, primes. */
public final class PenniesTest {
    private static final Due due = new Due("PenniesTest");

    public static void main(String[] args) {
        promise21Pennies();
        promise22See();
        promise23Unsee();
        promise24MayHold();
        promise24MayHoldEdges();
        promise25And26Ruin();
        promise25And26RuinRefused();
        promise27Coin();
        promise28Charm();
        due.end();
    }

    private static void pennies(int law, int mine, int theirs, int least) {
        PursesShare x = Texts.town("L0P0000P0000", mine, theirs);
        x.law(law);
        due.is("21 by law " + law + " of " + mine + " for " + theirs, x.pennies(0, 1), least);
        due.is("21 nothing is changed", x.purse(0), mine);
    }

    private static void promise21Pennies() {
        for (int law = 0; law < 4; law++) {
            pennies(law, 0, 5, 0);
            pennies(law, 5, 0, 0);
            pennies(law, 0, 0, 0);
            pennies(law, 8, 8, 0);
        }
        pennies(0, 12, 18, 0);
        pennies(0, 18, 12, 6);
        pennies(1, 12, 18, 12);
        pennies(1, 18, 12, 0);
        pennies(2, 12, 18, 0);
        pennies(2, 18, 12, 1);
        pennies(2, 19, 12, 0);
        pennies(2, 14, 12, 1);
        pennies(2, 16, 30, 0);
        pennies(2, 60, 30, 1);
        pennies(2, 36, 30, 5);
        pennies(2, 35, 30, 4);
        pennies(2, 30030 + 16, 30030, 16 - 1);
        pennies(3, 48, 99999, 0);
        pennies(3, 99999, 48, 99951);
        PursesShare x = Texts.town("L0P0005P0003");
        due.is("21 one", x.pennies(0, 0), PursesShare.STATE);
        due.is("21 unknown", x.pennies(2, 2), PursesShare.UNKNOWN);
        due.is("21 unknown", x.pennies(0, -1), PursesShare.UNKNOWN);
    }

    private static void promise22See() {
        PursesShare x = new PursesShare();
        due.is("22 b too small", x.see(0, 0), PursesShare.OUTSIDE);
        due.is("22 b too great", x.see(100000, 0), PursesShare.OUTSIDE);
        due.is("22 g too small", x.see(1, -1), PursesShare.OUTSIDE);
        due.is("22 g too great", x.see(1, 100000), PursesShare.OUTSIDE);
        due.is("22 nothing is seen", x.count(4), 0);
        for (int i = 1; i <= 8; i++) due.is("22 see", x.see(99999, 99999), i);
        due.is("22 full", x.see(5, 5), PursesShare.FULL);
        due.is("22 outside ahead of full", x.see(0, 5), PursesShare.OUTSIDE);
        due.is("22 eight", x.count(4), 8);
    }

    private static void promise23Unsee() {
        PursesShare x = new PursesShare();
        due.is("23 nothing", x.unsee(), 0);
        x.see(5, 1);
        x.see(6, 2);
        due.is("23 two", x.unsee(), 2);
        due.is("23 nothing is left", x.count(4), 0);
        due.is("23 all fit", x.mayHold(10, 0), 11);
    }

    private static void promise24MayHold() {
        PursesShare x = new PursesShare();
        mayHold(x, 10, 11, 0, 10);
        mayHold(x, 0, 1, 0, 0);
        x.see(12, 4);
        // Multiples of 4 that 12 does not go into: 4, 8, 16, 20.
        mayHold(x, 23, 4, 4, 20);
        mayHold(x, 24, 4, 4, 20);
        mayHold(x, 28, 5, 4, 28);
        mayHold(x, 3, 0, PursesShare.NONE, PursesShare.NONE);
        mayHold(x, 0, 0, PursesShare.NONE, PursesShare.NONE);
        x.see(9, 3);
        // 12 goes into all that 4 and 3 go into, so with 12 SHARED would be 12.
        mayHold(x, 99999, 0, PursesShare.NONE, PursesShare.NONE);
        x.unsee();
        x.see(99999, 99999);
        mayHold(x, 99999, 1, 99999, 99999);
        mayHold(x, 99998, 0, PursesShare.NONE, PursesShare.NONE);
    }

    private static void promise24MayHoldEdges() {
        PursesShare x = new PursesShare();
        x.see(5, 0);
        x.see(7, 0);
        mayHold(x, 100, 1, 0, 0);
        x.see(7, 1);
        mayHold(x, 100, 0, PursesShare.NONE, PursesShare.NONE);
        x.unsee();
        x.see(7, 2);
        mayHold(x, 100, 0, PursesShare.NONE, PursesShare.NONE);
        due.is("24 n too small", x.mayHold(-1, 0), PursesShare.OUTSIDE);
        due.is("24 n too great", x.mayHold(100000, 0), PursesShare.OUTSIDE);
        due.is("24 what too small", x.mayHold(5, -1), PursesShare.OUTSIDE);
        due.is("24 what too great", x.mayHold(5, 3), PursesShare.OUTSIDE);
        x.unsee();
        int[] primes = {99991, 99989, 99971, 99961, 99929, 99923, 99907, 99901};
        for (int prime : primes) x.see(prime, 1);
        mayHold(x, 99999, 99999 - 8, 1, 99999);
        mayHold(x, 99991, 99991 - 8, 1, 99990);
        // As many unlike primes as one sum can have: of 30030 purses in a row 5760 share nothing but 1 with it.
        x.unsee();
        x.see(30030, 1);
        mayHold(x, 90090, 3 * 5760, 1, 90089);
        // What was looked at for the first SEEN does not count for the next.
        x.unsee();
        x.see(15, 1);
        mayHold(x, 10, 5, 1, 8);
        x.unsee();
        x.see(3, 1);
        mayHold(x, 10, 7, 1, 10);
    }

    private static void mayHold(PursesShare x, int n, int howMany, int least, int greatest) {
        due.is("24 how many to " + n, x.mayHold(n, 0), howMany);
        due.is("24 the least to " + n, x.mayHold(n, 1), least);
        due.is("24 the greatest to " + n, x.mayHold(n, 2), greatest);
    }

    private static void promise25And26Ruin() {
        PursesShare x = Texts.town("L1P0006P0012P0009P0007");
        // By LAW 1 6 gets nothing from 12, but loses 6 to it.
        due.is("25 at once", x.ruin(0, 0), 1);
        due.is("26 the one", x.ruinAt(0, 0, 0), 1);
        due.is("26 no second", x.ruinAt(0, 0, 1), PursesShare.NONE);
        due.is("26 ahead of the first", x.ruinAt(0, 0, -1), PursesShare.NONE);
        // 6 and 9 share 3: 3 is left; it is less than the first's 6.
        due.is("25 to 5: the first row", x.ruinAt(0, 5, 0), 1);
        due.is("25 has it", x.ruin(0, 6), 0);
        due.is("26 none is sent", x.ruinAt(0, 6, 0), PursesShare.NONE);
        due.is("25 nothing is changed", x.count(5), 34);
        PursesShare equals = Texts.town("L0P0010P0010P0010");
        due.is("25 never", equals.ruin(0, 9), PursesShare.NONE);
        due.is("26 never", equals.ruinAt(0, 9, 0), PursesShare.NONE);
        PursesShare row = Texts.town("L0P0012P0001P0004P0006");
        // 12 gives 1, 4 or 6: with 6 it has 6, then 1 leaves 5 (4 would leave 4).
        due.is("25 to 6", row.ruin(0, 6), 1);
        due.is("26 to 6", row.ruinAt(0, 6, 0), 3);
        due.is("25 to 5", row.ruin(0, 5), 2);
        due.is("26 to 5, first", row.ruinAt(0, 5, 0), 3);
        due.is("26 to 5, second", row.ruinAt(0, 5, 1), 1);
        due.is("25 to 4", row.ruin(0, 4), 2);
        due.is("26 to 4, second", row.ruinAt(0, 4, 1), 2);
    }

    private static void promise25And26RuinRefused() {
        PursesShare x = Texts.town("L1P0006P0012");
        due.is("25 unknown", x.ruin(2, -1), PursesShare.UNKNOWN);
        due.is("25 unknown", x.ruin(-1, 0), PursesShare.UNKNOWN);
        due.is("25 outside", x.ruin(0, -1), PursesShare.OUTSIDE);
        due.is("25 outside", x.ruin(0, 100000), PursesShare.OUTSIDE);
        due.is("25 the greatest", x.ruin(0, 99999), 0);
        due.is("26 unknown", x.ruinAt(2, -1, 0), PursesShare.UNKNOWN);
        due.is("26 outside", x.ruinAt(0, -1, 0), PursesShare.OUTSIDE);
        due.is("26 outside", x.ruinAt(0, 100000, 0), PursesShare.OUTSIDE);
        due.is("26 far", x.ruinAt(0, 0, Integer.MAX_VALUE), PursesShare.NONE);
    }

    private static void promise27Coin() {
        due.is("27 all are empty", new PursesShare().coin(), 0);
        due.is("27 one is not", Texts.town("L0P0000P0042").coin(), 42);
        due.is("27 the first is not", Texts.town("L0P0042P0000P0000").coin(), 42);
        due.is("27 some", Texts.town("L0P0042P0000P0070P0028").coin(), 14);
        due.is("27 unlike", Texts.town("L0P0042P0000P0070P0009").coin(), 1);
        due.is("27 much", Texts.town("L0P0000P0000", 99999, 66666).coin(), 33333);
    }

    private static void charm(int held, int more) {
        due.is("28 of " + held, Texts.town("L0P0000P0000", held).charm(0), more);
    }

    private static void promise28Charm() {
        charm(0, 2);
        charm(1, 1);
        charm(2, 0);
        charm(3, 0);
        charm(4, 1);
        charm(25, 4);
        charm(31398, 71);
        charm(99991, 0);
        charm(99992, 11);
        charm(99999, 4);
        due.is("28 unknown", new PursesShare().charm(2), PursesShare.UNKNOWN);
        due.is("28 unknown", new PursesShare().charm(-1), PursesShare.UNKNOWN);
    }
}
