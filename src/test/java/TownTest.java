/** Promises 1 to 9: a new object, the text, the town, purses, the law, the day as told. */
public final class TownTest {
    private static final Due due = new Due("TownTest");
    private static final String EIGHT = "P0001P0002P0003P0004P0005P0006P0007P0008";

    public static void main(String[] args) {
        promise1NewObject();
        promise2Write();
        promise2WriteFull();
        promise3Wipe();
        promise4FaultOfLawAndPeople();
        promise4FaultOfMeetings();
        promise5Town();
        promise5TownClears();
        promise6Purse();
        promise7Fill();
        promise8Law();
        promise9Daily();
        due.end();
    }

    private static void promise1NewObject() {
        PursesShare x = new PursesShare();
        due.is("1 people", x.count(1), 2);
        due.is("1 purse(0)", x.purse(0), 0);
        due.is("1 purse(1)", x.purse(1), 0);
        for (int what : new int[] {0, 2, 3, 4, 5, 6}) due.is("1 count " + what, x.count(what), 0);
        due.is("1 town of no text", x.town(), PursesShare.STATE);
        due.is("1 again(0)", x.again(0), PursesShare.STATE);
        due.is("1 again(1)", x.again(1), PursesShare.STATE);
    }

    private static void promise2Write() {
        PursesShare x = new PursesShare();
        due.is("2 write(0)", x.write(0, 1L), PursesShare.OUTSIDE);
        due.is("2 write(9)", x.write(9, 1L), PursesShare.OUTSIDE);
        due.is("2 write(-1)", x.write(-1, 1L), PursesShare.OUTSIDE);
        due.is("2 write(least)", x.write(Integer.MIN_VALUE, 1L), PursesShare.OUTSIDE);
        due.is("2 write(greatest)", x.write(Integer.MAX_VALUE, 1L), PursesShare.OUTSIDE);
        due.is("2 nothing came", x.count(0), 0);
        due.is("2 write L3", x.write(2, Texts.asLong("L3")), 2);
        // The higher bytes of v are not written.
        due.is("2 write P0042", x.write(5, -1L << 40 | Texts.asLong("P0042")), 7);
        due.is("2 write P9999", x.write(5, Texts.asLong("P9999")), 12);
        due.is("2 town", x.town(), 2);
        due.is("2 law", x.count(6), 3);
        due.is("2 first purse", x.purse(0), 42);
        due.is("2 second purse", x.purse(1), 9999);
        due.is("2 a byte above 127", x.write(1, 0xF0L), 13);
        due.is("2 is a fault", x.fault(), 12);
        due.is("2 eight bytes", x.write(8, -1L), 21);
    }

    private static void promise2WriteFull() {
        PursesShare x = new PursesShare();
        for (int i = 0; i < 11; i++) x.write(8, 0L);
        due.is("2 up to 95", x.write(7, 0L), 95);
        due.is("2 two too many", x.write(2, 0L), PursesShare.FULL);
        due.is("2 outside ahead of full", x.write(9, 0L), PursesShare.OUTSIDE);
        due.is("2 nothing came of it", x.count(0), 95);
        due.is("2 to the brim", x.write(1, 0L), 96);
        due.is("2 one too many", x.write(1, 0L), PursesShare.FULL);
        due.is("2 still 96", x.wipe(), 96);
    }

    private static void promise3Wipe() {
        PursesShare x = new PursesShare();
        due.is("3 nothing to wipe", x.wipe(), 0);
        Texts.put(x, "L0P0001P0002");
        due.is("3 town", x.town(), 2);
        due.is("3 wipe", x.wipe(), 12);
        due.is("3 wiped", x.count(0), 0);
        due.is("3 the town stays", x.purse(1), 2);
        due.is("3 anew", x.write(1, 'L'), 1);
    }

    private static void promise4FaultOfLawAndPeople() {
        fault("", 0);
        fault("P", 0);
        fault("l", 0);
        fault("L", 1);
        fault("L4", 1);
        fault("L/", 1);
        fault("L3", 2);
        fault("L3L", 2);
        fault("L0P", 3);
        fault("L0P12x4", 5);
        fault("L0P123:", 6);
        fault("L0P0000", 7);
        fault("L0P0000M", 7);
        fault("L0P0000P000", 11);
        fault("L0P0000P0000", PursesShare.NONE);
        fault("L2" + EIGHT, PursesShare.NONE);
        fault("L2" + EIGHT + "P", 42);
        fault("L2" + EIGHT + "M07", PursesShare.NONE);
        fault("L0P0000P0000\0", 12);
    }

    private static void promise4FaultOfMeetings() {
        String two = "L1P0001P0002";
        fault(two + "M", 13);
        fault(two + "M0", 14);
        fault(two + "M01", PursesShare.NONE);
        fault(two + "M00", 14);
        fault(two + "M11", 14);
        fault(two + "M02", 14);
        fault(two + "M20", 13);
        fault(two + "Mx", 13);
        fault(two + "M0x", 14);
        fault(two + "m01", 12);
        // A person who is told behind the meeting is not there yet.
        fault(two + "M02P0003", 14);
        fault(two + "P0003M02", PursesShare.NONE);
        fault(two + "M10P0003M20", PursesShare.NONE);
        String sixteen = two + "M01".repeat(16);
        fault(sixteen, PursesShare.NONE);
        fault(sixteen + "P0003", PursesShare.NONE);
        fault(sixteen + "M", 60);
        fault(sixteen + "M01", 60);
        String whole = "L1" + EIGHT + "M67".repeat(16);
        fault(whole, PursesShare.NONE);
        fault(whole + "P", 90);
        fault(whole + "M", 90);
        fault(whole + "xxxxxx", 90);
    }

    private static void fault(String text, int at) {
        due.is("4 fault of " + text, Texts.faultOf(text), at);
    }

    private static void promise5Town() {
        PursesShare x = new PursesShare();
        Texts.put(x, "L2P0001P0020P0300M01M20P4000M31");
        due.is("5 town", x.town(), 4);
        due.is("5 the text stays", x.count(0), 31);
        due.is("5 again", x.town(), 4);
        due.is("5 law", x.count(6), 2);
        due.is("5 all purses", x.count(5), 4321);
        due.is("5 day", x.count(2), 3);
        x.write(1, 'P');
        due.is("5 fault", x.town(), PursesShare.STATE);
        due.is("5 the town stays", x.count(5), 4321);
        due.is("5 its meetings stay", x.daily(2, 0), 3);
        x.wipe();
        Texts.put(x, "L0P0007P0008");
        due.is("5 a smaller one", x.town(), 2);
        due.is("5 fewer people", x.purse(2), PursesShare.UNKNOWN);
        due.is("5 no meetings of the day", x.count(2), 0);
    }

    private static void promise5TownClears() {
        PursesShare x = Texts.town("L0P0012P0018");
        x.meet(0, 1);
        x.see(5, 1);
        x.keep(0);
        x.keep(1);
        x.write(1, 'x');
        due.is("5 refused", x.town(), PursesShare.STATE);
        due.is("5 kept still", x.again(1), 1);
        due.is("5 seen still", x.count(4), 1);
        x.wipe();
        Texts.put(x, "L0P0012P0018");
        due.is("5 anew", x.town(), 2);
        due.is("5 no meetings made", x.count(3), 0);
        due.is("5 no back", x.back(), PursesShare.STATE);
        due.is("5 nothing seen", x.count(4), 0);
        due.is("5 slot 0 gone", x.again(0), PursesShare.STATE);
        due.is("5 slot 1 gone", x.again(1), PursesShare.STATE);
        due.is("5 purses as told", x.purse(0), 12);
    }

    private static void promise6Purse() {
        PursesShare x = Texts.town("L2" + EIGHT);
        for (int person = 0; person < 8; person++) due.is("6 purse " + person, x.purse(person), person + 1);
        due.is("6 purse(8)", x.purse(8), PursesShare.UNKNOWN);
        due.is("6 purse(-1)", x.purse(-1), PursesShare.UNKNOWN);
        due.is("6 purse(least)", x.purse(Integer.MIN_VALUE), PursesShare.UNKNOWN);
        due.is("6 purse(greatest)", x.purse(Integer.MAX_VALUE), PursesShare.UNKNOWN);
    }

    private static void promise7Fill() {
        PursesShare x = Texts.town("L0P0012P0018");
        x.meet(0, 1);
        due.is("7 no such person", x.fill(2, 5), PursesShare.UNKNOWN);
        due.is("7 unknown ahead of outside", x.fill(-1, -1), PursesShare.UNKNOWN);
        due.is("7 too much", x.fill(0, 100000), PursesShare.OUTSIDE);
        due.is("7 too little", x.fill(0, -1), PursesShare.OUTSIDE);
        due.is("7 the row stays where refused", x.count(3), 1);
        due.is("7 fill", x.fill(0, 99999), 18);
        due.is("7 held", x.purse(0), 99999);
        due.is("7 the row is empty", x.count(3), 0);
        due.is("7 no back", x.back(), PursesShare.STATE);
        due.is("7 to nothing", x.fill(0, 0), 99999);
        x.meet(0, 1);
        x.see(3, 1);
        due.is("7 as it was", x.fill(1, 12), 12);
        due.is("7 empty then, too", x.count(3), 0);
        due.is("7 what is seen stays", x.count(4), 1);
    }

    private static void promise8Law() {
        PursesShare x = Texts.town("L2P0012P0018");
        x.meet(0, 1);
        due.is("8 outside", x.law(4), PursesShare.OUTSIDE);
        due.is("8 outside", x.law(-1), PursesShare.OUTSIDE);
        due.is("8 stays", x.count(6), 2);
        for (int k = 0; k < 4; k++) due.is("8 law " + k, x.law(k), k == 0 ? 2 : k - 1);
        due.is("8 now", x.count(6), 3);
        due.is("8 the row stays", x.count(3), 1);
        due.is("8 back by another law", x.back(), 0);
        due.is("8 as it was", x.purse(0), 12);
    }

    private static void promise9Daily() {
        PursesShare x = Texts.town("L0P0012P0018P0001M01M20");
        due.is("9 first of 0", x.daily(0, 0), 0);
        due.is("9 second of 0", x.daily(0, 1), 1);
        due.is("9 first of 1", x.daily(1, 0), 2);
        due.is("9 second of 1", x.daily(1, 1), 0);
        due.is("9 not so many", x.daily(2, 0), PursesShare.NONE);
        due.is("9 none", x.daily(-1, 1), PursesShare.NONE);
        due.is("9 none", x.daily(Integer.MAX_VALUE, 1), PursesShare.NONE);
        due.is("9 outside", x.daily(0, 2), PursesShare.OUTSIDE);
        due.is("9 outside", x.daily(0, -1), PursesShare.OUTSIDE);
        due.is("9 outside ahead of none", x.daily(9, 2), PursesShare.OUTSIDE);
        PursesShare many = Texts.town("L0P0012P0018" + "M01M10".repeat(8));
        due.is("9 the last", many.daily(15, 0), 1);
        due.is("9 behind the last", many.daily(16, 0), PursesShare.NONE);
    }
}
