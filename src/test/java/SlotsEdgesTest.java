/**
 * Promises 29 to 31 and the terms that they name, sentence by sentence: a method for each sentence that names an edge,
 * with the sentence ahead of it.
 */
public final class SlotsEdgesTest {
    private static final Due due = new Due("SlotsEdgesTest");
    private static final int MIN = Integer.MIN_VALUE, MAX = Integer.MAX_VALUE;
    private static final int UNKNOWN = PursesShare.UNKNOWN, OUTSIDE = PursesShare.OUTSIDE, STATE = PursesShare.STATE;
    private static final int FULL = PursesShare.FULL;

    public static void main(String[] args) {
        promise29Slots();
        promise29HowManyMeetings();
        promise29OverWhatWasKept();
        promise29TheyAreKept();
        promise30NoneWereKept();
        promise30AsTheyWereKept();
        promise30FullRows();
        promise30WhatIsNotKept();
        promise30KeptAndGoneOnFrom();
        promise31TheLeast();
        promise31TheGreatest();
        promise31Outside();
        due.end();
    }

    /** "SLOTS 0 to 1" and "UNKNOWN (there is no such .. SLOT)" */
    private static void promise29Slots() {
        PursesShare x = Texts.town("L0P0012P0018");
        for (int slot : new int[] {MIN, -1, 2, 3, MAX}) {
            due.is("29 keep(" + slot + ")", x.keep(slot), UNKNOWN);
            due.is("30 again(" + slot + ")", x.again(slot), UNKNOWN);
        }
        due.is("29 nothing was kept in 0", x.again(0), STATE);
        due.is("29 nothing was kept in 1", x.again(1), STATE);
        due.is("29 keep(0)", x.keep(0), 0);
        due.is("29 keep(1)", x.keep(1), 0);
        for (int slot : new int[] {MIN, -1, 2, 3, MAX}) due.is("30 again(" + slot + ")", x.again(slot), UNKNOWN);
        due.is("30 again(0)", x.again(0), 0);
        due.is("30 again(1)", x.again(1), 0);
    }

    /** "how many MEETINGS were made" (32 at most) */
    private static void promise29HowManyMeetings() {
        PursesShare x = Texts.town("L0P0001P0002");
        for (int made = 0; made <= 32; made++) {
            due.is("29 keep", x.keep(made % 2), made);
            due.is("30 again", x.again(made % 2), made);
            x.meet(0, 1);
        }
        due.is("30 the other one", x.again(1), 31);
        due.is("30 its purse", x.purse(0), 2);
        due.is("30 the last one", x.again(0), 32);
        due.is("30 its purse", x.purse(0), 1);
    }

    /** A SLOT has what was kept last; the other one stays. */
    private static void promise29OverWhatWasKept() {
        PursesShare x = Texts.town("L0P0001P0002");
        x.fill(0, 7);
        x.keep(0);
        x.fill(0, 8);
        x.keep(1);
        x.fill(0, 9);
        x.keep(0);
        x.fill(0, 10);
        x.again(1);
        due.is("29 the other one", x.purse(0), 8);
        x.again(0);
        due.is("29 the later one", x.purse(0), 9);
    }

    /** "They are kept": as they were then, whatever comes behind it */
    private static void promise29TheyAreKept() {
        PursesShare x = Texts.town("L0P0012P0018P0035M01M12");
        x.see(7, 7);
        x.meet(1, 0);
        x.keep(0);
        x.day();
        x.fill(2, 99999);
        x.law(3);
        x.unsee();
        for (int i = 0; i < 8; i++) x.see(1 + i, 1);
        x.fill(0, 500);
        x.fill(1, 333);
        for (int i = 0; i < 32; i++) x.meet((i + 2) % 3, i % 3);
        due.is("30 again", x.again(0), 1);
        due.is("30 first", x.purse(0), 18);
        due.is("30 second", x.purse(1), 12);
        due.is("30 third", x.purse(2), 35);
        due.is("30 law", x.count(6), 0);
        due.is("30 seen", x.count(4), 1);
        due.is("30 what was seen", x.mayHold(99999, 1), 7);
        due.is("30 back", x.back(), 0);
        due.is("30 first", x.purse(0), 12);
        due.is("30 second", x.purse(1), 18);
        due.is("30 third", x.purse(2), 35);
        due.is("30 no more", x.back(), STATE);
    }

    /** "STATE: none were kept.", of several the first; what is refused changes nothing */
    private static void promise30NoneWereKept() {
        PursesShare x = new PursesShare();
        due.is("30 of a new one", x.again(0), STATE);
        due.is("30 of a new one", x.again(1), STATE);
        due.is("30 unknown", x.again(2), UNKNOWN);
        x.fill(0, 5);
        x.meet(0, 1);
        x.keep(1);
        x.fill(0, 6);
        x.see(5, 5);
        due.is("30 the other slot", x.again(0), STATE);
        due.is("30 nothing changed", x.purse(0), 6);
        due.is("30 nothing changed", x.count(4), 1);
        due.is("30 this one", x.again(1), 1);
        x.wipe();
        due.is("30 wipe leaves it", x.again(1), 1);
        Texts.put(x, "L0P0000P0000");
        x.town();
        due.is("30 town takes it away", x.again(1), STATE);
    }

    /** "They are as they were kept": PURSES from 0 to 99999, every LAW, nothing and 8 SEEN */
    private static void promise30AsTheyWereKept() {
        for (int law = 0; law < 4; law++) {
            PursesShare x = Texts.town("L0" + "P0000".repeat(8), 99999, 0, 1, 2, 3, 4, 5, 99998);
            x.law(law);
            x.keep(0);
            for (int i = 0; i < 8; i++) x.see(3, 3);
            x.keep(1);
            for (int person = 0; person < 8; person++) x.fill(person, 77);
            x.law(3 - law);
            x.unsee();
            due.is("30 again", x.again(1), 0);
            due.is("30 law", x.count(6), law);
            due.is("30 eight", x.count(4), 8);
            due.is("30 what was seen", x.mayHold(99999, 0), 33333);
            due.is("30 no room", x.see(3, 3), FULL);
            int[] held = {99999, 0, 1, 2, 3, 4, 5, 99998};
            for (int person = 0; person < 8; person++) due.is("30 purse", x.purse(person), held[person]);
            due.is("30 the other one", x.again(0), 0);
            due.is("30 nothing was seen", x.count(4), 0);
        }
    }

    /** "the row of MEETINGS" of none and of 32 */
    private static void promise30FullRows() {
        PursesShare x = Texts.town("L1P0001P0002P0099");
        x.keep(0);
        for (int i = 0; i < 32; i++) x.meet(i % 3, (i + 1) % 3);
        x.keep(1);
        due.is("30 none", x.again(0), 0);
        due.is("30 none to take back", x.back(), STATE);
        due.is("30 there is room", x.meet(0, 1), 99999);
        due.is("30 all", x.again(1), 32);
        due.is("30 no room", x.meet(0, 1), FULL);
        for (int left = 31; left >= 0; left--) due.is("30 back", x.back(), left);
        due.is("30 first", x.purse(0), 1);
        due.is("30 second", x.purse(1), 2);
        due.is("30 third", x.purse(2), 99);
        due.is("30 none is left", x.back(), STATE);
    }

    /** "SLOTS keep PURSES, LAW, the row of MEETINGS, what is SEEN.": THE TEXT and THE DAY are not among it */
    private static void promise30WhatIsNotKept() {
        PursesShare x = Texts.town("L0P0001P0002M01");
        x.keep(0);
        x.wipe();
        x.write(3, Texts.asLong("L0x"));
        x.again(0);
        due.is("30 the text", x.count(0), 3);
        due.is("30 its fault", x.fault(), 2);
        due.is("30 the day", x.count(2), 1);
    }

    /** "kept and gone on from": as often as one likes */
    private static void promise30KeptAndGoneOnFrom() {
        PursesShare x = Texts.town("L0P0001P0002");
        x.meet(0, 1);
        x.keep(0);
        for (int i = 0; i < 3; i++) {
            due.is("30 again", x.again(0), 1);
            due.is("30 gone on", x.meet(0, 1), 99999);
            x.fill(1, 50);
            x.see(5, 5);
            x.back();
        }
        due.is("30 at last", x.again(0), 1);
        due.is("30 as it was kept", x.purse(1), 1);
        due.is("30 nothing was seen", x.count(4), 0);
    }

    /** "0 bytes .., 1 PEOPLE, 2 MEETINGS of THE DAY, 3 MEETINGS that were made, 4 SEEN, 5 all PURSES, 6 the LAW" */
    private static void promise31TheLeast() {
        PursesShare x = new PursesShare();
        int[] least = {0, 2, 0, 0, 0, 0, 0};
        for (int what = 0; what < 7; what++) due.is("31 count " + what, x.count(what), least[what]);
    }

    /** The same, as much as there can be of each. */
    private static void promise31TheGreatest() {
        PursesShare x = Texts.town("L3" + "P9999".repeat(8) + "M01".repeat(16));
        due.is("31 all purses of a text", x.count(5), 79992);
        due.is("31 bytes", x.count(0), 90);
        x.write(6, 0L);
        for (int person = 0; person < 8; person++) x.fill(person, 99999);
        for (int i = 0; i < 33; i++) x.meet(0, 1);
        for (int i = 0; i < 9; i++) x.see(1, 1);
        int[] greatest = {96, 8, 16, 32, 8, 799992, 3};
        for (int what = 0; what < 7; what++) due.is("31 count " + what, x.count(what), greatest[what]);
    }

    /** "OUTSIDE." */
    private static void promise31Outside() {
        PursesShare x = Texts.town("L0P0001P0002");
        for (int what : new int[] {MIN, -1, 7, 8, MAX}) due.is("31 count " + what, x.count(what), OUTSIDE);
    }
}
