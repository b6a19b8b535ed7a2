/** Promises 10 to 20: shared sums, meetings, days, rings, the best order. */
public final class MeetingsTest {
    private static final Due due = new Due("MeetingsTest");
    private static final String TWO = "L0P0000P0000";

    public static void main(String[] args) {
        promise10Shared();
        promise11MeetByEveryLaw();
        promise11MeetLoses();
        promise11MeetRefused();
        promise12Back();
        promise13Day();
        promise14After();
        promise15And16RingAndLead();
        promise17Later();
        promise18DayRing();
        promise19And20BestOrder();
        due.end();
    }

    private static void promise10Shared() {
        PursesShare x = Texts.town("L0P0012P0018P0000P0012", 12, 18, 0, 12);
        due.is("10 shared", x.shared(0, 1), 6);
        due.is("10 the other way", x.shared(1, 0), 6);
        due.is("10 as much", x.shared(0, 3), 12);
        due.is("10 nothing", x.shared(0, 2), 0);
        due.is("10 one", x.shared(2, 2), PursesShare.STATE);
        due.is("10 unknown", x.shared(0, 4), PursesShare.UNKNOWN);
        due.is("10 unknown", x.shared(-1, 0), PursesShare.UNKNOWN);
        due.is("10 unknown ahead of state", x.shared(9, 9), PursesShare.UNKNOWN);
        x.fill(0, 99999);
        x.fill(1, 66666);
        due.is("10 much", x.shared(0, 1), 33333);
    }

    /** What the first one has more (and 100000), then both purses. */
    private static void meets(int law, int mine, int theirs, int mineThen, int theirsThen) {
        PursesShare x = Texts.town(TWO, mine, theirs);
        x.law(law);
        String told = "11 by law " + law + " " + mine + " meets " + theirs;
        due.is(told, x.meet(0, 1), 100000 + mineThen - mine);
        due.is(told + ", first", x.purse(0), mineThen);
        due.is(told + ", second", x.purse(1), theirsThen);
        due.is(told + ", made", x.count(3), 1);
    }

    private static void promise11MeetByEveryLaw() {
        meets(0, 12, 18, 18, 12);
        meets(0, 18, 12, 12, 18);
        meets(0, 100, 30, 90, 40);
        meets(1, 12, 18, 6, 24);
        meets(1, 100, 30, 110, 20);
        meets(1, 5, 10, 0, 15);
        meets(2, 12, 18, 15, 15);
        meets(2, 9, 15, 10, 14);
        meets(2, 7, 8, 7, 8);
        meets(3, 12, 18, 18, 12);
        meets(3, 10, 40, 20, 30);
        meets(3, 10, 50, 30, 30);
        meets(3, 48, 99999, 50022, 50025);
        for (int law = 0; law < 4; law++) {
            meets(law, 30, 30, 30, 30);
            meets(law, 0, 30, 0, 30);
            meets(law, 30, 0, 30, 0);
            meets(law, 0, 0, 0, 0);
        }
    }

    private static void promise11MeetLoses() {
        meets(1, 99999, 99998, 99999, 99997);
        meets(1, 99998, 99996, 99999, 99994);
        meets(1, 33333, 99999, 0, 99999);
        PursesShare x = Texts.town(TWO, 33333, 99999);
        x.law(1);
        x.meet(0, 1);
        due.is("11 back", x.back(), 0);
        due.is("11 what was lost is there again", x.purse(0), 33333);
        due.is("11 nothing is won by it", x.purse(1), 99999);
    }

    private static void promise11MeetRefused() {
        PursesShare x = Texts.town("L0P0012P0018P0005");
        due.is("11 one", x.meet(1, 1), PursesShare.STATE);
        due.is("11 unknown", x.meet(0, 3), PursesShare.UNKNOWN);
        due.is("11 unknown", x.meet(-1, -1), PursesShare.UNKNOWN);
        due.is("11 none made", x.count(3), 0);
        for (int i = 0; i < 32; i++) x.meet(0, 1);
        int held = x.purse(0);
        due.is("11 full", x.meet(0, 2), PursesShare.FULL);
        due.is("11 state ahead of full", x.meet(0, 0), PursesShare.STATE);
        due.is("11 unknown ahead of full", x.meet(0, 3), PursesShare.UNKNOWN);
        due.is("11 nothing changed", x.purse(0), held);
        due.is("11 32", x.count(3), 32);
        due.is("11 back", x.back(), 31);
        due.is("11 there is room", x.meet(0, 2) >= 0 ? 1 : 0, 1);
    }

    private static void promise12Back() {
        PursesShare x = Texts.town("L1P0012P0018P0005");
        due.is("12 none", x.back(), PursesShare.STATE);
        x.meet(0, 1);
        x.meet(1, 2);
        x.meet(2, 0);
        due.is("12 back", x.back(), 2);
        due.is("12 back", x.back(), 1);
        due.is("12 first", x.purse(0), 6);
        due.is("12 second", x.purse(1), 24);
        due.is("12 third", x.purse(2), 5);
        due.is("12 back", x.back(), 0);
        due.is("12 first", x.purse(0), 12);
        due.is("12 second", x.purse(1), 18);
        due.is("12 none is left", x.back(), PursesShare.STATE);
    }

    private static void promise13Day() {
        PursesShare x = Texts.town("L0P0012P0018P0000M01M02M01M12");
        x.meet(0, 1);
        due.is("13 day", x.day(), 2);
        due.is("13 first", x.purse(0), 18);
        due.is("13 the row is empty", x.count(3), 0);
        due.is("13 no back", x.back(), PursesShare.STATE);
        PursesShare none = Texts.town(TWO, 12, 18);
        none.meet(0, 1);
        due.is("13 no meetings of the day", none.day(), 0);
        due.is("13 empty then, too", none.count(3), 0);
        due.is("13 the purses stay", none.purse(0), 18);
        PursesShare loses = Texts.town("L1P0000P0000M01", 99999, 4);
        due.is("13 only what is lost", loses.day(), 1);
        due.is("13 lost", loses.count(5), 100002);
    }

    private static void promise14After() {
        PursesShare x = Texts.town("L0P0000P0000P0007", 100, 30);
        due.is("14 none", x.after(0, 1, 0), 100);
        due.is("14 one", x.after(0, 1, 1), 90);
        due.is("14 two", x.after(0, 1, 2), 80);
        due.is("14 two, of the other", x.after(1, 0, 2), 50);
        due.is("14 nothing is changed", x.purse(0), 100);
        due.is("14 no meetings", x.count(3), 0);
        due.is("14 one of both", x.after(1, 1, 5), PursesShare.STATE);
        due.is("14 outside", x.after(0, 1, -1), PursesShare.OUTSIDE);
        due.is("14 outside", x.after(0, 1, 1000000000), PursesShare.OUTSIDE);
        due.is("14 outside ahead of state", x.after(1, 1, -1), PursesShare.OUTSIDE);
        due.is("14 unknown ahead of outside", x.after(1, 3, -1), PursesShare.UNKNOWN);
        due.is("14 unknown", x.after(-1, 0, 1), PursesShare.UNKNOWN);
        // 99999 and 4 have 100003 in all, a prime: one penny a meeting, until they change places for ever.
        x.fill(0, 99999);
        x.fill(1, 4);
        due.is("14 long", x.after(0, 1, 49997), 50002);
        due.is("14 the ring", x.after(0, 1, 49998), 50001);
        due.is("14 odd", x.after(0, 1, 999999999), 50002);
        due.is("14 even", x.after(0, 1, 999999998), 50001);
        due.is("14 even, the other", x.after(1, 0, 999999998), 50002);
    }

    private static void ring(int law, int mine, int theirs, int ring, int lead) {
        PursesShare x = Texts.town(TWO, mine, theirs);
        x.law(law);
        String told = " by law " + law + " of " + mine + " and " + theirs;
        due.is("15 ring" + told, x.ring(0, 1), ring);
        due.is("16 lead" + told, x.lead(0, 1), lead);
        due.is("15 ring, turned," + told, x.ring(1, 0), ring);
        due.is("16 lead, turned," + told, x.lead(1, 0), lead);
        due.is("15 nothing is changed", x.purse(0), mine);
    }

    private static void promise15And16RingAndLead() {
        ring(0, 0, 0, 1, 0);
        ring(0, 12, 18, 2, 0);
        ring(0, 10, 30, 1, 1);
        ring(0, 99999, 4, 2, 49997);
        ring(1, 10, 30, 1, 1);
        ring(1, 50001, 50002, 1, 49999);
        ring(2, 12, 18, 1, 1);
        ring(2, 7, 8, 1, 0);
        ring(2, 60060 - 40632, 40632, 1, 55);
        ring(3, 48, 99999, 2, 1);
        ring(3, 10, 50, 1, 1);
        ring(3, 12, 18, 2, 0);
        PursesShare x = Texts.town(TWO, 1, 2);
        due.is("15 one", x.ring(1, 1), PursesShare.STATE);
        due.is("16 one", x.lead(0, 0), PursesShare.STATE);
        due.is("15 unknown", x.ring(2, 2), PursesShare.UNKNOWN);
        due.is("16 unknown", x.lead(0, -1), PursesShare.UNKNOWN);
    }

    private static void promise17Later() {
        PursesShare x = Texts.town("L0P0012P0018P0000M01");
        x.meet(0, 2);
        due.is("17 no day", x.later(0, 0), 12);
        due.is("17 one day", x.later(0, 1), 18);
        due.is("17 two days", x.later(0, 2), 12);
        due.is("17 299 days", x.later(0, 299), 18);
        due.is("17 300 days", x.later(0, 300), 12);
        due.is("17 nothing is changed", x.purse(0), 12);
        due.is("17 the row stays", x.count(3), 1);
        due.is("17 too many", x.later(0, 301), PursesShare.OUTSIDE);
        due.is("17 too few", x.later(0, -1), PursesShare.OUTSIDE);
        due.is("17 unknown", x.later(3, 301), PursesShare.UNKNOWN);
        due.is("17 unknown", x.later(-1, 0), PursesShare.UNKNOWN);
    }

    private static void promise18DayRing() {
        PursesShare x = Texts.town("L0P0012P0018M01");
        due.is("18 ring", x.dayRing(false), 2);
        due.is("18 lead", x.dayRing(true), 0);
        due.is("18 nothing is changed", x.purse(0), 12);
        PursesShare none = Texts.town(TWO, 5, 7);
        due.is("18 no meetings", none.dayRing(false), 1);
        due.is("18 no meetings", none.dayRing(true), 0);
        // 100003 in all is a prime: by LAW 0 a penny a day, until both are a penny apart.
        dayRing(0, 50002 + 298, 50001 - 298, 2, 298);
        dayRing(0, 50002 + 299, 50001 - 299, PursesShare.NONE, PursesShare.NONE);
        // So is 1009: by LAW 1 a penny a day, until one is ruined.
        dayRing(1, 1009 - 299, 299, 1, 299);
        dayRing(1, 1009 - 300, 300, PursesShare.NONE, PursesShare.NONE);
    }

    private static void dayRing(int law, int mine, int theirs, int ring, int lead) {
        PursesShare x = Texts.town("L0P0000P0000M01", mine, theirs);
        x.law(law);
        due.is("18 ring of " + mine + " and " + theirs, x.dayRing(false), ring);
        due.is("18 lead of " + mine + " and " + theirs, x.dayRing(true), lead);
    }

    private static void promise19And20BestOrder() {
        PursesShare x = Texts.town("L0P0012P0018P0030P0007M01M12M02M03");
        // M01 first: 18 and 12; then M03: 17 and 8; the other orders leave less or come later.
        PlainTown plain = PlainTown.of("L0P0012P0018P0030P0007M01M12M02M03");
        for (int person = 0; person < 4; person++) {
            due.is("19 most " + person, x.most(person), plain.most(person));
            for (int k = -1; k < 5; k++) due.is("20 mostAt " + person + " " + k, x.mostAt(person, k), plain.mostAt(person, k));
        }
        due.is("19 nothing is changed", x.purse(0), 12);
        PursesShare simple = Texts.town("L0P0010P0020P0015M01M02");
        // 10 and 20: 20; then with 15: 15. 10 and 15: 15; then with 20: 20.
        due.is("19 simple", simple.most(0), 20);
        due.is("20 first of it", simple.mostAt(0, 0), 1);
        due.is("20 second of it", simple.mostAt(0, 1), 0);
        due.is("20 not so many", simple.mostAt(0, 2), PursesShare.NONE);
        due.is("20 not so many", simple.mostAt(0, -1), PursesShare.NONE);
        PursesShare alike = Texts.town("L0P0010P0010P0010M12M01M02M01M02M12");
        due.is("19 alike", alike.most(0), 10);
        for (int k = 0; k < 6; k++) due.is("20 of like ones the first", alike.mostAt(0, k), k);
        due.is("19 unknown", simple.most(3), PursesShare.UNKNOWN);
        due.is("20 unknown", simple.mostAt(-1, 0), PursesShare.UNKNOWN);
        PursesShare many = Texts.town("L0P0010P0020" + "M01".repeat(7));
        due.is("19 too many", many.most(0), PursesShare.STATE);
        due.is("20 too many", many.mostAt(0, 99), PursesShare.STATE);
        due.is("19 unknown ahead of state", many.most(2), PursesShare.UNKNOWN);
        due.is("20 unknown ahead of state", many.mostAt(2, 0), PursesShare.UNKNOWN);
        PursesShare none = Texts.town(TWO, 5, 7);
        due.is("19 no meetings", none.most(1), 7);
        due.is("20 no meetings", none.mostAt(1, 0), PursesShare.NONE);
    }
}
