/** Promises 29 to 31: what is kept and gone on from, and what is counted. */
public final class SlotsTest {
    private static final Due due = new Due("SlotsTest");

    public static void main(String[] args) {
        promise29Keep();
        promise30Again();
        promise30AgainLeavesTheRest();
        promise31Count();
        due.end();
    }

    private static void promise29Keep() {
        PursesShare x = Texts.town("L0P0012P0018");
        due.is("29 unknown", x.keep(2), PursesShare.UNKNOWN);
        due.is("29 unknown", x.keep(-1), PursesShare.UNKNOWN);
        due.is("29 none made", x.keep(0), 0);
        x.meet(0, 1);
        x.meet(0, 1);
        due.is("29 two made", x.keep(1), 2);
        due.is("29 over what was kept", x.keep(0), 2);
        due.is("29 the later one", x.again(0), 2);
    }

    private static void promise30Again() {
        PursesShare x = Texts.town("L1P0012P0018P0005");
        due.is("30 unknown", x.again(2), PursesShare.UNKNOWN);
        due.is("30 unknown", x.again(-1), PursesShare.UNKNOWN);
        due.is("30 none kept", x.again(1), PursesShare.STATE);
        x.meet(0, 1);
        x.see(12, 4);
        x.keep(1);
        due.is("30 the other slot", x.again(0), PursesShare.STATE);
        x.fill(0, 77);
        x.law(3);
        x.unsee();
        x.see(9, 9);
        x.see(8, 8);
        x.meet(1, 2);
        due.is("30 again", x.again(1), 1);
        due.is("30 purse", x.purse(0), 6);
        due.is("30 purse", x.purse(1), 24);
        due.is("30 law", x.count(6), 1);
        due.is("30 seen", x.count(4), 1);
        due.is("30 what was seen", x.mayHold(23, 2), 20);
        due.is("30 back", x.back(), 0);
        due.is("30 purse", x.purse(0), 12);
        due.is("30 purse", x.purse(1), 18);
        due.is("30 as often as one likes", x.again(1), 1);
        due.is("30 what is kept stays as it was", x.purse(0), 6);
    }

    private static void promise30AgainLeavesTheRest() {
        PursesShare x = Texts.town("L1P0012P0018P0005M01");
        x.keep(0);
        x.write(1, 'x');
        x.keep(1);
        x.meet(0, 1);
        due.is("30 again", x.again(0), 0);
        due.is("30 the text stays", x.count(0), 21);
        due.is("30 the day stays", x.count(2), 1);
        due.is("30 the other slot stays", x.again(1), 0);
        due.is("30 a day", x.day(), 1);
        due.is("30 again behind a day", x.again(0), 0);
        due.is("30 as it was", x.purse(0), 12);
    }

    private static void promise31Count() {
        PursesShare x = Texts.town("L3P0012P0018P0005M01M12");
        x.meet(0, 1);
        x.see(5, 5);
        x.see(6, 6);
        x.see(7, 7);
        due.is("31 bytes", x.count(0), 23);
        due.is("31 people", x.count(1), 3);
        due.is("31 of the day", x.count(2), 2);
        due.is("31 made", x.count(3), 1);
        due.is("31 seen", x.count(4), 3);
        due.is("31 all purses", x.count(5), 35);
        due.is("31 law", x.count(6), 3);
        due.is("31 outside", x.count(7), PursesShare.OUTSIDE);
        due.is("31 outside", x.count(-1), PursesShare.OUTSIDE);
        PursesShare rich = Texts.town("L0" + "P0000".repeat(8), 99999, 99999, 99999, 99999, 99999, 99999, 99999, 99999);
        due.is("31 much", rich.count(5), 799992);
    }
}
