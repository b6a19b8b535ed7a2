/**
 * Promises 10 to 20 and the terms that they name, sentence by sentence: a method for each sentence that names an edge,
 * with the sentence ahead of it.
 */
public final class MeetingsEdgesTest {
    private static final Due due = new Due("MeetingsEdgesTest");
    private static final int MIN = Integer.MIN_VALUE, MAX = Integer.MAX_VALUE;
    private static final int UNKNOWN = PursesShare.UNKNOWN, OUTSIDE = PursesShare.OUTSIDE, STATE = PursesShare.STATE;
    private static final int FULL = PursesShare.FULL, NONE = PursesShare.NONE;
    private static final String TWO = "L0P0000P0000";
    private static final int[] NOBODY = {MIN, -1, 3, 4, 8, MAX};

    public static void main(String[] args) {
        promise10Greatest();
        promise10Nothing();
        promise10Refused();
        promise11AsMuchOrNothing();
        promise11TheOneWhoHasLess();
        promise11TheOneWhoHasMore();
        promise11HalfOfItCut();
        promise11HalfSoOften();
        promise11NobodyHasMore();
        promise11MayBeLess();
        promise11AtMost32();
        promise11Refused();
        promise12TheLast();
        promise12ThereIsNone();
        promise13ChangedAPurse();
        promise13NotInThatRow();
        promise13AtMost16();
        promise14Times();
        promise14Refused();
        promise15FirstNumber();
        promise15And16Refused();
        promise16WhenTheyHadThat();
        promise17Days();
        promise17Refused();
        promise18LookedForIn300Days();
        promise18OfAll();
        promise19SixAtMost();
        promise19ByEveryLaw();
        promise20OfLikeOnesTheFirst();
        promise20NotSoMany();
        promise19And20Refused();
        nothingIsChangedByAsking();
        due.end();
    }

    private static PursesShare two(int law, int mine, int theirs) {
        PursesShare x = Texts.town(TWO, mine, theirs);
        x.law(law);
        return x;
    }

    private static void shared(int mine, int theirs, int greatest) {
        due.is("10 shared by " + mine + " and " + theirs, two(0, mine, theirs).shared(0, 1), greatest);
        due.is("10 shared by " + theirs + " and " + mine, two(0, mine, theirs).shared(1, 0), greatest);
    }

    /** "the greatest whole number that goes into what both have" */
    private static void promise10Greatest() {
        shared(1, 1, 1);
        shared(1, 99999, 1);
        shared(99998, 99999, 1);
        shared(33333, 99999, 33333);
        shared(99999, 99999, 99999);
        shared(49999, 99998, 49999);
        shared(75025, 46368, 1);
        shared(65536, 98304, 32768);
    }

    /** "0, if one has nothing" */
    private static void promise10Nothing() {
        shared(0, 0, 0);
        shared(0, 1, 0);
        shared(0, 99999, 0);
    }

    /** "UNKNOWN: people; STATE: both are one.", of several the first */
    private static void promise10Refused() {
        PursesShare x = Texts.town("L0P0012P0018P0000");
        for (int nobody : NOBODY) {
            due.is("10 with " + nobody, x.shared(0, nobody), UNKNOWN);
            due.is("10 of " + nobody, x.shared(nobody, 0), UNKNOWN);
            due.is("10 unknown ahead of state", x.shared(nobody, nobody), UNKNOWN);
        }
        for (int person = 0; person < 3; person++) due.is("10 both are one", x.shared(person, person), STATE);
    }

    /** What both have behind a MEETING, whoever of them is named first. */
    private static void meets(int law, int mine, int theirs, int mineThen, int theirsThen) {
        String told = "11 by law " + law + " of " + mine + " and " + theirs;
        PursesShare x = two(law, mine, theirs);
        due.is(told, x.meet(0, 1), 100000 + mineThen - mine);
        due.is(told + ", first", x.purse(0), mineThen);
        due.is(told + ", second", x.purse(1), theirsThen);
        PursesShare turned = two(law, mine, theirs);
        due.is(told + ", turned", turned.meet(1, 0), 100000 + theirsThen - theirs);
        due.is(told + ", turned, first", turned.purse(0), mineThen);
        due.is(told + ", turned, second", turned.purse(1), theirsThen);
    }

    /** "When two MEET, and both have as much, or SHARED is 0, nothing is done." */
    private static void promise11AsMuchOrNothing() {
        for (int law = 0; law < 4; law++) {
            for (int held : new int[] {0, 1, 2, 99998, 99999}) {
                meets(law, held, held, held, held);
                meets(law, 0, held, 0, held);
            }
            // It is a MEETING that was made, though.
            PursesShare x = two(law, 0, 5);
            x.meet(0, 1);
            due.is("11 made", x.count(3), 1);
            due.is("11 back", x.back(), 0);
        }
    }

    /** "by LAW 0 the one who has less gets SHARED from the other one" */
    private static void promise11TheOneWhoHasLess() {
        meets(0, 1, 2, 2, 1);
        meets(0, 1, 3, 2, 2);
        meets(0, 1, 99999, 2, 99998);
        meets(0, 99998, 99999, 99999, 99998);
        meets(0, 33333, 99999, 66666, 66666);
        meets(0, 49999, 99998, 99998, 49999);
    }

    /** "by LAW 1 the one who has more gets it from the other one" */
    private static void promise11TheOneWhoHasMore() {
        meets(1, 1, 2, 0, 3);
        meets(1, 2, 3, 1, 4);
        meets(1, 12, 18, 6, 24);
        meets(1, 1, 99998, 0, 99999);
        meets(1, 24999, 74997, 0, 99996);
    }

    /** "by LAW 2 the one who has less gets half of it (cut)" */
    private static void promise11HalfOfItCut() {
        meets(2, 1, 2, 1, 2);
        meets(2, 1, 99999, 1, 99999);
        meets(2, 99998, 99999, 99998, 99999);
        meets(2, 2, 4, 3, 3);
        meets(2, 3, 6, 4, 5);
        meets(2, 4, 8, 6, 6);
        meets(2, 5, 10, 7, 8);
        meets(2, 33333, 99999, 49999, 83333);
    }

    /** "SHARED half so often (cut; once at least) as it goes into what the other one has more than it" */
    private static void promise11HalfSoOften() {
        meets(3, 10, 20, 20, 10);
        meets(3, 10, 30, 20, 20);
        meets(3, 10, 40, 20, 30);
        meets(3, 10, 50, 30, 30);
        meets(3, 10, 60, 30, 40);
        meets(3, 12, 18, 18, 12);
        meets(3, 1, 99999, 50000, 50000);
        meets(3, 1, 99998, 49999, 50000);
        meets(3, 99998, 99999, 99999, 99998);
    }

    /** "Nobody has more than 99999: what is beyond is lost." */
    private static void promise11NobodyHasMore() {
        meets(1, 1, 99999, 0, 99999);
        meets(1, 25000, 75000, 0, 99999);
        meets(1, 99998, 99999, 99997, 99999);
        meets(1, 99996, 99998, 99994, 99999);
        meets(1, 33333, 99999, 0, 99999);
        meets(1, 49999, 99998, 0, 99999);
    }

    /** "by how much the first one has more then than ahead of it (it may be less), and 100000" */
    private static void promise11MayBeLess() {
        PursesShare x = two(3, 1, 99999);
        due.is("11 the most that can be got", x.meet(0, 1), 149999);
        PursesShare y = two(3, 1, 99999);
        due.is("11 as much less", y.meet(1, 0), 50001);
        PursesShare z = two(1, 49999, 99998);
        due.is("11 all that it has", z.meet(0, 1), 50001);
        due.is("11 nothing", z.meet(0, 1), 100000);
    }

    /** "MEETINGS that were made are a row (32 at most)" and "FULL: 32." */
    private static void promise11AtMost32() {
        PursesShare x = two(0, 1, 2);
        for (int made = 1; made <= 32; made++) {
            due.is("11 meeting " + made, x.meet(0, 1), made % 2 == 1 ? 100001 : 99999);
            due.is("11 made", x.count(3), made);
        }
        due.is("11 one too many", x.meet(0, 1), FULL);
        due.is("11 the other way", x.meet(1, 0), FULL);
        due.is("11 still 32", x.count(3), 32);
        due.is("11 nothing changed", x.purse(0), 1);
        due.is("11 one back", x.back(), 31);
        due.is("11 there is room for one", x.meet(0, 1), 99999);
        due.is("11 for no more", x.meet(0, 1), FULL);
        // A MEETING by which nothing is done takes its place in the row, too.
        PursesShare nothing = new PursesShare();
        for (int made = 0; made < 32; made++) due.is("11 nothing is done", nothing.meet(0, 1), 100000);
        due.is("11 full of nothing", nothing.meet(0, 1), FULL);
    }

    /** "UNKNOWN; STATE: both are one; FULL: 32.", of several the first; what is refused changes nothing */
    private static void promise11Refused() {
        PursesShare x = Texts.town("L0P0001P0002P0005");
        for (int made = 0; made <= 32; made += 32) {
            for (int nobody : NOBODY) {
                due.is("11 with " + nobody, x.meet(0, nobody), UNKNOWN);
                due.is("11 of " + nobody, x.meet(nobody, 0), UNKNOWN);
                due.is("11 unknown ahead of state", x.meet(nobody, nobody), UNKNOWN);
            }
            for (int person = 0; person < 3; person++) due.is("11 both are one", x.meet(person, person), STATE);
            due.is("11 made", x.count(3), made);
            for (int i = 0; i < 32; i++) x.meet(0, 1);
        }
        due.is("11 full", x.meet(0, 2), FULL);
        due.is("11 purse", x.purse(2), 5);
    }

    /** "the last one can be taken back" and "how many are left" */
    private static void promise12TheLast() {
        PursesShare x = Texts.town("L1P0024P0036P0099");
        for (int made = 0; made < 32; made++) x.meet(made % 3, (made + 1) % 3);
        for (int left = 31; left >= 1; left--) due.is("12 back", x.back(), left);
        due.is("12 behind the first: first", x.purse(0), 12);
        due.is("12 behind the first: second", x.purse(1), 48);
        due.is("12 behind the first: third", x.purse(2), 99);
        due.is("12 the first", x.back(), 0);
        due.is("12 first", x.purse(0), 24);
        due.is("12 second", x.purse(1), 36);
        // What was lost beyond 99999 comes back with the MEETING.
        PursesShare lost = two(1, 49999, 99998);
        lost.meet(0, 1);
        due.is("12 of what was lost", lost.back(), 0);
        due.is("12 first", lost.purse(0), 49999);
        due.is("12 second", lost.purse(1), 99998);
    }

    /** "STATE: there is none." */
    private static void promise12ThereIsNone() {
        due.is("12 of a new one", new PursesShare().back(), STATE);
        PursesShare x = Texts.town("L0P0001P0002M01");
        due.is("12 of a town", x.back(), STATE);
        x.meet(0, 1);
        due.is("12 one", x.back(), 0);
        due.is("12 none is left", x.back(), STATE);
        due.is("12 nothing changed", x.purse(0), 1);
        x.meet(0, 1);
        x.fill(0, 9);
        due.is("12 behind a fill", x.back(), STATE);
        due.is("12 as filled", x.purse(0), 9);
        x.meet(0, 1);
        x.day();
        due.is("12 behind a day", x.back(), STATE);
        x.meet(0, 1);
        x.town();
        due.is("12 behind a town", x.back(), STATE);
    }

    private static void day(int law, int mine, int theirs, int changed) {
        PursesShare x = Texts.town(TWO + "M01", mine, theirs);
        x.law(law);
        due.is("13 day by law " + law + " of " + mine + " and " + theirs, x.day(), changed);
    }

    /** "A DAY: how many of its MEETINGS changed a PURSE." */
    private static void promise13ChangedAPurse() {
        due.is("13 of no meetings", Texts.town("L0P0001P0002").day(), 0);
        for (int law = 0; law < 4; law++) {
            day(law, 0, 0, 0);
            day(law, 0, 7, 0);
            day(law, 7, 0, 0);
            day(law, 7, 7, 0);
            day(law, 6, 12, 1);
            day(law, 12, 6, 1);
            day(law, 7, 8, law == 2 ? 0 : 1);
        }
        day(1, 99999, 1, 1);
        day(1, 1, 99999, 1);
        day(1, 99999, 99999, 0);
    }

    /** "(they are not in that row; the row is empty then)" */
    private static void promise13NotInThatRow() {
        PursesShare x = Texts.town("L0P0001P0002P0005M01M01M01");
        for (int made = 0; made < 32; made++) x.meet(0, 1);
        due.is("13 day", x.day(), 3);
        due.is("13 not in that row", x.count(3), 0);
        due.is("13 none to take back", x.back(), STATE);
        due.is("13 there is room", x.meet(0, 1), 99999);
        PursesShare still = Texts.town("L0P0007P0007P0002M01");
        still.meet(1, 2);
        still.back();
        still.meet(0, 1);
        due.is("13 a day that changes nothing", still.day(), 0);
        due.is("13 empty then, too", still.count(3), 0);
        PursesShare none = Texts.town("L0P0001P0002");
        none.meet(0, 1);
        due.is("13 a day without meetings", none.day(), 0);
        due.is("13 empty then, too", none.count(3), 0);
    }

    /** "a MEETING of THE DAY (16 at most)" and "all MEETINGS of THE DAY, in order" */
    private static void promise13AtMost16() {
        PursesShare x = Texts.town("L0P0001P0002" + "M01".repeat(16));
        due.is("13 sixteen", x.day(), 16);
        due.is("13 an even number", x.purse(0), 1);
        PursesShare odd = Texts.town("L0P0001P0002" + "M10".repeat(15));
        due.is("13 fifteen", odd.day(), 15);
        due.is("13 an odd number", odd.purse(0), 2);
        // 10, 20 and 15: M01 makes 20, 10; M02 then 15, 20. The other way: 15, 10, then M01 20 and 15.
        PursesShare order = Texts.town("L0P0010P0020P0015M01M02");
        due.is("13 both", order.day(), 2);
        due.is("13 in order", order.purse(0), 15);
        PursesShare turned = Texts.town("L0P0010P0020P0015M02M01");
        due.is("13 both", turned.day(), 2);
        due.is("13 in order", turned.purse(0), 20);
    }

    /** "TWO who MEET n times (0 to 999999999)" */
    private static void promise14Times() {
        for (int law = 0; law < 4; law++) {
            PursesShare x = two(law, 12, 18);
            due.is("14 no times", x.after(0, 1, 0), 12);
            due.is("14 no times, of the other", x.after(1, 0, 0), 18);
            due.is("14 once", x.after(0, 1, 1), new int[] {18, 6, 15, 18}[law]);
            due.is("14 as often as can be", x.after(0, 1, 999999999), new int[] {18, 0, 15, 18}[law]);
            due.is("14 once less", x.after(0, 1, 999999998), new int[] {12, 0, 15, 12}[law]);
            due.is("14 the other one", x.after(1, 0, 999999999), new int[] {12, 30, 15, 12}[law]);
        }
        PursesShare full = two(1, 99999, 1);
        due.is("14 who is full stays so", full.after(0, 1, 999999999), 99999);
        due.is("14 the other one is ruined", full.after(1, 0, 1), 0);
        due.is("14 of nothing", new PursesShare().after(0, 1, 999999999), 0);
    }

    /** "UNKNOWN; OUTSIDE: n; STATE: both are one.", of several the first */
    private static void promise14Refused() {
        PursesShare x = Texts.town("L0P0012P0018P0000");
        for (int n : new int[] {MIN, -1, 0, 999999999, 1000000000, MAX}) {
            for (int nobody : NOBODY) {
                due.is("14 with " + nobody, x.after(0, nobody, n), UNKNOWN);
                due.is("14 of " + nobody, x.after(nobody, 0, n), UNKNOWN);
                due.is("14 unknown ahead of all", x.after(nobody, nobody, n), UNKNOWN);
            }
        }
        for (int n : new int[] {MIN, -1, 1000000000, 1000000001, MAX}) {
            due.is("14 n of " + n, x.after(0, 1, n), OUTSIDE);
            due.is("14 outside ahead of state", x.after(1, 1, n), OUTSIDE);
        }
        due.is("14 both are one", x.after(1, 1, 0), STATE);
        due.is("14 both are one", x.after(2, 2, 999999999), STATE);
    }

    private static void ring(int law, int mine, int theirs, int ring, int lead) {
        PursesShare x = two(law, mine, theirs);
        String told = " by law " + law + " of " + mine + " and " + theirs;
        due.is("15 ring" + told, x.ring(0, 1), ring);
        due.is("15 ring, turned," + told, x.ring(1, 0), ring);
        due.is("16 lead" + told, x.lead(0, 1), lead);
        due.is("16 lead, turned," + told, x.lead(1, 0), lead);
    }

    /** "RING of two: the first number of MEETINGS behind which they have what they (both) had already, less .." */
    private static void promise15FirstNumber() {
        for (int law = 0; law < 4; law++) {
            ring(law, 0, 0, 1, 0);
            ring(law, 0, 99999, 1, 0);
            ring(law, 99999, 0, 1, 0);
            ring(law, 5, 5, 1, 0);
            ring(law, 99999, 99999, 1, 0);
        }
        // Both change places: neither has what it had behind one MEETING, both have it behind two.
        ring(0, 1, 2, 2, 0);
        ring(0, 99998, 99999, 2, 0);
        ring(3, 1, 2, 2, 0);
        ring(3, 99998, 99999, 2, 0);
        ring(1, 1, 2, 1, 1);
        ring(2, 1, 2, 1, 0);
        ring(2, 99998, 99999, 1, 0);
    }

    /** "LEAD: when they had that first" */
    private static void promise16WhenTheyHadThat() {
        ring(0, 1, 3, 1, 1);
        ring(0, 1, 4, 2, 1);
        ring(0, 1, 99999, 2, 22);
        // 1 to 5, then 2 to 4, which change places; told in as great a SHARED as can be.
        ring(0, 1, 5, 2, 1);
        ring(0, 19999, 99995, 2, 1);
        ring(1, 1, 99999, 1, 1);
        ring(1, 49999, 99998, 1, 1);
        ring(1, 99998, 99999, 1, 314);
        ring(2, 2, 4, 1, 1);
        ring(2, 33333, 99999, 1, 1);
        ring(3, 1, 99999, 1, 1);
        ring(3, 1, 99998, 2, 1);
    }

    /** "UNKNOWN: people; STATE: both are one.", of several the first */
    private static void promise15And16Refused() {
        PursesShare x = Texts.town("L0P0012P0018P0000");
        for (int nobody : NOBODY) {
            due.is("15 with " + nobody, x.ring(0, nobody), UNKNOWN);
            due.is("15 of " + nobody, x.ring(nobody, 0), UNKNOWN);
            due.is("15 unknown ahead of state", x.ring(nobody, nobody), UNKNOWN);
            due.is("16 with " + nobody, x.lead(0, nobody), UNKNOWN);
            due.is("16 of " + nobody, x.lead(nobody, 0), UNKNOWN);
            due.is("16 unknown ahead of state", x.lead(nobody, nobody), UNKNOWN);
        }
        for (int person = 0; person < 3; person++) {
            due.is("15 both are one", x.ring(person, person), STATE);
            due.is("16 both are one", x.lead(person, person), STATE);
        }
    }

    /** "DAYS n (0 to 300): what a PERSON has behind so many." */
    private static void promise17Days() {
        // 100003 in all is a prime: by LAW 0 a penny a day.
        PursesShare x = Texts.town(TWO + "M01", 99999, 4);
        due.is("17 no days", x.later(0, 0), 99999);
        due.is("17 no days, of the other", x.later(1, 0), 4);
        due.is("17 one day", x.later(0, 1), 99998);
        due.is("17 299 days", x.later(0, 299), 99700);
        due.is("17 300 days", x.later(0, 300), 99699);
        due.is("17 300 days, of the other", x.later(1, 300), 304);
        PursesShare none = Texts.town("L0P0001P0002");
        due.is("17 days without meetings", none.later(1, 300), 2);
    }

    /** "UNKNOWN; OUTSIDE.", of several the first */
    private static void promise17Refused() {
        PursesShare x = Texts.town("L0P0012P0018P0000M01");
        for (int n : new int[] {MIN, -1, 301, 302, MAX}) {
            for (int person = 0; person < 3; person++) due.is("17 n of " + n, x.later(person, n), OUTSIDE);
            for (int nobody : NOBODY) due.is("17 unknown ahead of outside", x.later(nobody, n), UNKNOWN);
        }
        for (int nobody : NOBODY) due.is("17 of " + nobody, x.later(nobody, 300), UNKNOWN);
    }

    private static void dayRing(int law, int mine, int theirs, int ring, int lead) {
        PursesShare x = Texts.town(TWO + "M01", mine, theirs);
        x.law(law);
        due.is("18 day ring of " + mine + " and " + theirs, x.dayRing(false), ring);
        due.is("18 day lead of " + mine + " and " + theirs, x.dayRing(true), lead);
    }

    /** "looked for in 300 DAYS; NONE: not found in these" */
    private static void promise18LookedForIn300Days() {
        dayRing(0, 0, 0, 1, 0);
        dayRing(0, 1, 2, 2, 0);
        dayRing(0, 1, 3, 1, 1);
        // 100003 is a prime: by LAW 0 a penny a day, until 50002 and 50001 change places for ever.
        dayRing(0, 50002 + 297, 50001 - 297, 2, 297);
        dayRing(0, 50002 + 298, 50001 - 298, 2, 298);
        dayRing(0, 50002 + 299, 50001 - 299, NONE, NONE);
        // So is 1009: by LAW 1 a penny a day, until one is ruined.
        dayRing(1, 1009 - 298, 298, 1, 298);
        dayRing(1, 1009 - 299, 299, 1, 299);
        dayRing(1, 1009 - 300, 300, NONE, NONE);
        // The other one is full and stays so: only what the first one has tells the DAYS apart.
        dayRing(1, 3, 99999, 1, 1);
        dayRing(1, 99999, 3, 1, 1);
    }

    /** "likewise of all by DAYS" */
    private static void promise18OfAll() {
        PursesShare none = Texts.town("L0P0001P0002");
        due.is("18 days without meetings", none.dayRing(false), 1);
        due.is("18 days without meetings", none.dayRing(true), 0);
        // Two change places a DAY, two others do so from 4 and 6 on (1 and 9, 2 and 8, 4 and 6).
        PursesShare both = Texts.town("L0P0001P0002P0001P0009M01M23");
        due.is("18 of all, ring", both.dayRing(false), 2);
        due.is("18 of all, lead", both.dayRing(true), 2);
        // The last of eight counts, too.
        PursesShare eight = Texts.town("L0P0000P0000P0000P0000P0000P0000P0001P0002M67");
        due.is("18 of eight, ring", eight.dayRing(false), 2);
        due.is("18 of eight, lead", eight.dayRing(true), 0);
    }

    /** "of all orders of THE DAY's MEETINGS (6 at most)" and "STATE: more than 6 MEETINGS." */
    private static void promise19SixAtMost() {
        for (int many = 0; many <= 6; many++) {
            PursesShare x = Texts.town("L0P0001P0002" + "M01".repeat(many));
            due.is("19 most of " + many, x.most(0), 1 + many % 2);
            due.is("19 most of " + many + ", the other", x.most(1), 2 - many % 2);
        }
        for (int many : new int[] {7, 8, 16}) {
            PursesShare x = Texts.town("L0P0001P0002" + "M01".repeat(many));
            due.is("19 most of " + many, x.most(0), STATE);
            for (int k : new int[] {MIN, -1, 0, 6, 7, 16, MAX}) due.is("20 mostAt of " + many, x.mostAt(0, k), STATE);
        }
    }

    /** "the one by which it has most then", by every LAW */
    private static void promise19ByEveryLaw() {
        // 10 with 20, then with 15; or the other way round.
        int[] straight = {15, 0, 15, 15};
        int[] turned = {20, 0, 14, 20};
        for (int law = 0; law < 4; law++) {
            PursesShare x = Texts.town("L" + law + "P0010P0020P0015M01M02");
            int most = Math.max(straight[law], turned[law]);
            due.is("19 most by law " + law, x.most(0), most);
            due.is("20 its first meeting by law " + law, x.mostAt(0, 0), straight[law] == most ? 0 : 1);
            due.is("20 its second meeting by law " + law, x.mostAt(0, 1), straight[law] == most ? 1 : 0);
            due.is("13 the day in order by law " + law, x.day(), law == 1 || law == 2 ? 1 : 2);
            due.is("13 has then by law " + law, x.purse(0), straight[law]);
        }
    }

    /** "of like ones the first (by which MEETING, as told, is first, then second ..)" */
    private static void promise20OfLikeOnesTheFirst() {
        PursesShare alike = Texts.town("L0P0010P0010P0010M12M01M02M01M02M12");
        for (int k = 0; k < 6; k++) due.is("20 all are alike", alike.mostAt(0, k), k);
        // M02 ahead of M01 leaves 20; M34 is told between them and changes nothing of it.
        PursesShare x = Texts.town("L0P0010P0020P0015P0001P0002M01M34M02");
        due.is("19 most", x.most(0), 20);
        due.is("20 the first that can be", x.mostAt(0, 0), 1);
        due.is("20 then the one that must be ahead", x.mostAt(0, 1), 2);
        due.is("20 last what is left", x.mostAt(0, 2), 0);
        due.is("19 of one who does not care", x.most(3), 2);
        for (int k = 0; k < 3; k++) due.is("20 as told", x.mostAt(3, k), k);
    }

    /** "NONE: there are not so many." */
    private static void promise20NotSoMany() {
        for (int many = 0; many <= 6; many++) {
            PursesShare x = Texts.town("L0P0001P0001" + "M01".repeat(many));
            for (int k = 0; k < many; k++) due.is("20 of " + many, x.mostAt(0, k), k);
            for (int k : new int[] {MIN, -1, many, many + 1, 16, MAX}) due.is("20 of " + many, x.mostAt(0, k), NONE);
        }
    }

    /** "UNKNOWN; STATE", of several the first; and ahead of NONE */
    private static void promise19And20Refused() {
        for (int many : new int[] {0, 6, 7, 16}) {
            PursesShare x = Texts.town("L0P0001P0002P0003" + "M01".repeat(many));
            for (int nobody : NOBODY) {
                due.is("19 of " + nobody, x.most(nobody), UNKNOWN);
                for (int k : new int[] {-1, 0, 6, MAX}) due.is("20 of " + nobody, x.mostAt(nobody, k), UNKNOWN);
            }
        }
    }

    /** "(nothing is changed by asking)" */
    private static void nothingIsChangedByAsking() {
        PursesShare x = Texts.town("L0P0012P0018P0035M01M12M02");
        x.meet(0, 2);
        x.after(0, 1, 999999999);
        x.ring(1, 2);
        x.lead(1, 2);
        x.later(2, 300);
        x.dayRing(true);
        x.most(0);
        x.mostAt(0, 1);
        due.is("14 first", x.purse(0), 13);
        due.is("14 second", x.purse(1), 18);
        due.is("14 third", x.purse(2), 34);
        due.is("14 the row", x.back(), 0);
        due.is("14 as it was", x.purse(0), 12);
        due.is("14 the day", x.daily(0, 1), 1);
    }
}
