/**
 * Promises 1 to 9 and the terms that they name, sentence by sentence: a method for each sentence that names an edge,
 * with the sentence ahead of it.
 */
public final class TownEdgesTest {
    private static final Due due = new Due("TownEdgesTest");
    private static final int MIN = Integer.MIN_VALUE, MAX = Integer.MAX_VALUE;
    private static final int UNKNOWN = PursesShare.UNKNOWN, OUTSIDE = PursesShare.OUTSIDE, STATE = PursesShare.STATE;
    private static final int FULL = PursesShare.FULL, NONE = PursesShare.NONE;
    private static final String LAW = "L0", PERSON = "P0000", TWO = LAW + PERSON + PERSON, EIGHT = LAW + PERSON.repeat(8);

    public static void main(String[] args) {
        theNumbersOfRefusals();
        promise1TwoWithNothing();
        promise1AtFirstTheTown();
        promise2HowManyBytes();
        promise2TheLowest();
        promise2TheHighestFirst();
        promise2AtMost96();
        promise2OfSeveralTheFirst();
        promise3Empty();
        promise3Full();
        promise4TheLawIsFirst();
        promise4LawsAre0To3();
        promise4FourFigures();
        promise4EightPeopleAtMost();
        promise4FewerThanTwoPeople();
        promise4SixteenMeetingsAtMost();
        promise4UnlikeOnes();
        promise4ToldAheadOfIt();
        promise4OnlyNotAtItsEnd();
        promise4TheFirstByte();
        promise4LengthSetAside();
        promise5HowManyPeople();
        promise5TheTextStays();
        promise5NoMeetingsWereMade();
        promise5NothingIsSeen();
        promise5WhatWasKeptIsGone();
        promise5Fault();
        promise6Unknown();
        promise6Holds();
        promise7Sums();
        promise7TheRowIsEmpty();
        promise7Refused();
        promise8Laws();
        promise9NotSoMany();
        promise9What();
        due.end();
    }

    /** "UNKNOWN = -1, OUTSIDE = -2, STATE = -3, FULL = -4, NONE = -9" */
    private static void theNumbersOfRefusals() {
        due.is("UNKNOWN", UNKNOWN, -1);
        due.is("OUTSIDE", OUTSIDE, -2);
        due.is("STATE", STATE, -3);
        due.is("FULL", FULL, -4);
        due.is("NONE", NONE, -9);
    }

    /** "Two with nothing." */
    private static void promise1TwoWithNothing() {
        PursesShare x = new PursesShare();
        due.is("1 people", x.count(1), 2);
        due.is("1 first", x.purse(0), 0);
        due.is("1 second", x.purse(1), 0);
        due.is("1 no third", x.purse(2), UNKNOWN);
        due.is("1 all", x.count(5), 0);
        due.is("1 shared", x.shared(0, 1), 0);
        due.is("1 coin", x.coin(), 0);
        due.is("1 they meet", x.meet(0, 1), 100000);
    }

    /** "At first THE TOWN is L0P0000P0000." */
    private static void promise1AtFirstTheTown() {
        PursesShare x = new PursesShare();
        due.is("1 law", x.count(6), 0);
        due.is("1 meetings of the day", x.count(2), 0);
        due.is("1 the first of them", x.daily(0, 0), NONE);
        due.is("1 made", x.count(3), 0);
        due.is("1 back", x.back(), STATE);
        due.is("1 seen", x.count(4), 0);
        due.is("1 slot 0", x.again(0), STATE);
        due.is("1 slot 1", x.again(1), STATE);
        due.is("1 bytes", x.count(0), 0);
        due.is("1 fault of no bytes", x.fault(), 0);
        due.is("1 day", x.day(), 0);
        due.is("1 most", x.most(1), 0);
    }

    /** "n bytes (1 to 8) of v" */
    private static void promise2HowManyBytes() {
        for (int n : new int[] {MIN, -8, -1, 0, 9, 10, 64, MAX}) {
            PursesShare x = new PursesShare();
            due.is("2 write(" + n + ")", x.write(n, 'L'), OUTSIDE);
            due.is("2 nothing came of " + n, x.count(0), 0);
        }
        for (int n = 1; n <= 8; n++) {
            PursesShare x = new PursesShare();
            due.is("2 write(" + n + ")", x.write(n, 'L'), n);
            due.is("2 as many again", x.write(n, 'L'), 2 * n);
        }
    }

    /** "the lowest n" */
    private static void promise2TheLowest() {
        for (int n = 1; n <= 7; n++) {
            PursesShare x = new PursesShare();
            long lowest = Texts.asLong("L0P0007P".substring(0, n));
            due.is("2 the lowest " + n, x.write(n, -1L << 8 * n | lowest), n);
            due.is("2 none of the higher ones of " + n, x.fault(), n);
        }
    }

    /** "the highest of these first, come behind THE TEXT" */
    private static void promise2TheHighestFirst() {
        PursesShare x = new PursesShare();
        x.write(8, Texts.asLong("L2P1234P"));
        due.is("2 behind the text", x.write(4, Texts.asLong("5678")), 12);
        due.is("2 town", x.town(), 2);
        due.is("2 law", x.count(6), 2);
        due.is("2 first", x.purse(0), 1234);
        due.is("2 second", x.purse(1), 5678);
        PursesShare zeros = new PursesShare();
        due.is("2 bytes of nothing count", zeros.write(3, 'L'), 3);
        due.is("2 they come first", zeros.fault(), 0);
        PursesShare high = Texts.town(TWO);
        high.write(1, 0x80);
        due.is("2 a byte of 128", high.fault(), 12);
        due.is("2 a byte of 255", high.write(8, -1L), 21);
        due.is("2 the fault stays where it was", high.fault(), 12);
    }

    /** "FULL: it would be longer than 96 (nothing comes)." */
    private static void promise2AtMost96() {
        for (int n = 1; n <= 8; n++) {
            PursesShare fits = ofLength(96 - n);
            due.is("2 " + n + " up to 96", fits.write(n, 0L), 96);
            PursesShare full = ofLength(97 - n);
            due.is("2 " + n + " up to 97", full.write(n, 0L), FULL);
            due.is("2 nothing came of " + n, full.count(0), 97 - n);
        }
        PursesShare full = ofLength(95);
        due.is("2 eight behind 95", full.write(8, 0L), FULL);
        due.is("2 one behind 95", full.write(1, 0L), 96);
        due.is("2 one behind 96", full.write(1, 0L), FULL);
        due.is("2 96 it is", full.count(0), 96);
    }

    private static PursesShare ofLength(int length) {
        PursesShare x = new PursesShare();
        for (int left = length; left > 0; left -= 8) x.write(Math.min(8, left), 0L);
        due.is("2 bytes", x.count(0), length);
        return x;
    }

    /** "REFUSALS, of several the first that a call names": OUTSIDE; FULL */
    private static void promise2OfSeveralTheFirst() {
        PursesShare full = ofLength(96);
        for (int n : new int[] {MIN, 0, 9, MAX}) due.is("2 outside ahead of full", full.write(n, 0L), OUTSIDE);
        due.is("2 nothing came", full.count(0), 96);
    }

    /** "THE TEXT is empty: how long it was." */
    private static void promise3Empty() {
        PursesShare x = new PursesShare();
        due.is("3 nothing", x.wipe(), 0);
        due.is("3 nothing again", x.wipe(), 0);
        x.write(1, 'L');
        due.is("3 one byte", x.wipe(), 1);
        due.is("3 empty", x.count(0), 0);
        due.is("3 fault of the empty one", x.fault(), 0);
        due.is("3 town of the empty one", x.town(), STATE);
    }

    /** "THE TEXT is bytes (96 at most)." */
    private static void promise3Full() {
        PursesShare x = ofLength(96);
        due.is("3 full", x.wipe(), 96);
        due.is("3 anew", x.write(8, 0L), 8);
        PursesShare town = Texts.town("L1P0012P0018M01");
        town.meet(0, 1);
        town.see(5, 5);
        town.keep(0);
        due.is("3 wiped", town.wipe(), 15);
        due.is("3 the purses stay", town.purse(0), 6);
        due.is("3 the day stays", town.count(2), 1);
        due.is("3 the row stays", town.count(3), 1);
        due.is("3 what is seen stays", town.count(4), 1);
        due.is("3 what was kept stays", town.again(0), 1);
    }

    private static void fault(String text, int at) {
        due.is("4 fault of " + text, Texts.faultOf(text), at);
    }

    /** "Lk LAW k; the first PART" */
    private static void promise4TheLawIsFirst() {
        fault("P", 0);
        fault("M", 0);
        fault("l0", 0);
        fault("\0", 0);
        fault("0", 0);
        fault(PERSON + PERSON, 0);
        fault("L0L0", 2);
        fault("L0" + PERSON + "L0", 7);
        fault(TWO + "L0", 12);
        fault(TWO + "M01L", 15);
    }

    /** "LAW k (0 to 3)" */
    private static void promise4LawsAre0To3() {
        for (int k = 0; k <= 3; k++) {
            fault("L" + k + PERSON + PERSON, NONE);
            due.is("4 law " + k, Texts.town("L" + k + PERSON + PERSON).count(6), k);
        }
        for (char wrong : new char[] {'4', '9', '/', ':', 'L', 'P', 0, 128, 255}) fault("L" + wrong, 1);
    }

    /** "a PERSON whose PURSE holds nnnn (four figures)" */
    private static void promise4FourFigures() {
        for (int figure = 0; figure < 4; figure++) {
            String begun = "L0P" + "9".repeat(figure);
            for (char wrong : new char[] {'/', ':', 'P', 'M', ' ', '-', 0, 176, 255}) fault(begun + wrong, 3 + figure);
            fault(begun + "0", figure < 3 ? 4 + figure : 7);
            fault(begun + "9", figure < 3 ? 4 + figure : 7);
        }
        fault("L0P00000", 7);
        PursesShare x = Texts.town("L0P0000P9999P0001P1000");
        due.is("4 the least purse", x.purse(0), 0);
        due.is("4 the greatest purse", x.purse(1), 9999);
        due.is("4 the lowest figure", x.purse(2), 1);
        due.is("4 the highest figure", x.purse(3), 1000);
    }

    /** "a PERSON (2 to 8, numbered as they are told)" */
    private static void promise4EightPeopleAtMost() {
        fault(EIGHT, NONE);
        fault(EIGHT + "P", 42);
        fault(EIGHT + PERSON, 42);
        fault(EIGHT + "M01P", 45);
        fault(LAW + PERSON.repeat(7) + "P", 38);
        fault(LAW + PERSON.repeat(7) + "M01P", 41);
        PursesShare x = Texts.town("L0P0010P0011P0012P0013P0014P0015P0016P0017");
        for (int person = 0; person < 8; person++) due.is("4 person " + person, x.purse(person), 10 + person);
    }

    /** "A TEXT with fewer than two PEOPLE is none yet." */
    private static void promise4FewerThanTwoPeople() {
        fault("", 0);
        fault(LAW, 2);
        fault(LAW + PERSON, 7);
        fault(TWO, NONE);
        due.is("4 no town of nobody", townOf(LAW), STATE);
        due.is("4 no town of one", townOf(LAW + PERSON), STATE);
        due.is("4 a town of two", townOf(TWO), 2);
    }

    private static int townOf(String text) {
        PursesShare x = new PursesShare();
        Texts.put(x, text);
        return x.town();
    }

    /** "a MEETING of THE DAY (16 at most)" */
    private static void promise4SixteenMeetingsAtMost() {
        fault(TWO + "M01".repeat(15), NONE);
        fault(TWO + "M01".repeat(15) + "M", 58);
        fault(TWO + "M01".repeat(16), NONE);
        fault(TWO + "M01".repeat(16) + "M", 60);
        fault(TWO + "M01".repeat(17), 60);
        fault(TWO + "M01".repeat(16) + PERSON, NONE);
        fault(TWO + "M01".repeat(16) + PERSON + "M", 65);
        due.is("4 sixteen", Texts.town(TWO + "M01".repeat(16)).count(2), 16);
    }

    /** "PEOPLE i and j (unlike ones ..)" */
    private static void promise4UnlikeOnes() {
        for (int i = 0; i < 8; i++) {
            for (int j = 0; j < 8; j++) fault(EIGHT + "M" + i + j, i == j ? 44 : NONE);
        }
    }

    /** "that were told ahead of it" */
    private static void promise4ToldAheadOfIt() {
        for (int people = 2; people <= 8; people++) {
            String told = LAW + PERSON.repeat(people) + "M";
            fault(told + (people - 1) + "0", NONE);
            fault(told + "0" + (people - 1), NONE);
            fault(told + people, told.length());
            fault(told + "0" + people, told.length() + 1);
            fault(told + "/", told.length());
            fault(told + "0/", told.length() + 1);
        }
        fault(TWO + "M02" + PERSON, 14);
        fault(TWO + "M20" + PERSON, 13);
        fault(TWO + PERSON + "M02", NONE);
        // With one, or nobody, told ahead there are no two who could meet.
        fault(LAW + "M", 2);
        fault(LAW + PERSON + "M", 7);
        fault(LAW + PERSON + "M01" + PERSON, 7);
    }

    /** "its length, if it is only not at its end" */
    private static void promise4OnlyNotAtItsEnd() {
        String whole = "L3P0000P0000P9999M20";
        for (int length = 0; length <= whole.length(); length++) {
            boolean ended = length == 12 || length == 17 || length == 20;
            fault(whole.substring(0, length), ended ? NONE : length);
        }
    }

    /** "the place (from 0 on) of the first byte by which THE TEXT can be no TOWN, whatever came behind it" */
    private static void promise4TheFirstByte() {
        String whole = "L3P0000P0000P9999M20";
        for (int place = 0; place < whole.length(); place++) {
            String before = whole.substring(0, place);
            fault(before + "x" + whole.substring(place + 1), place);
            fault(before + "xx" + whole, place);
        }
        fault("x", 0);
        fault(TWO + "\0", 12);
        fault(TWO + "\u00ff", 12);
    }

    /** "(its length set aside)" */
    private static void promise4LengthSetAside() {
        String longest = EIGHT + "M67".repeat(16);
        fault(longest, NONE);
        for (char more : new char[] {'P', 'M', 'L', '0'}) {
            fault(longest + more, 90);
            fault(longest + String.valueOf(more).repeat(6), 90);
        }
        fault("x" + longest + "xxxxx", 0);
    }

    /** "THE TEXT is THE TOWN: how many PEOPLE." */
    private static void promise5HowManyPeople() {
        for (int people = 2; people <= 8; people++) {
            PursesShare x = Texts.town(EIGHT);
            x.wipe();
            Texts.put(x, LAW + PERSON.repeat(people));
            due.is("5 town", x.town(), people);
            due.is("5 people", x.count(1), people);
            due.is("5 the last", x.purse(people - 1), 0);
            due.is("5 behind the last", x.purse(people), UNKNOWN);
        }
    }

    /** "(that stays as it is)" */
    private static void promise5TheTextStays() {
        PursesShare x = Texts.town("L1P0012P0018M01");
        due.is("5 bytes", x.count(0), 15);
        due.is("5 fault", x.fault(), NONE);
        x.fill(0, 5);
        x.law(3);
        due.is("5 the same town", x.town(), 2);
        due.is("5 purse", x.purse(0), 12);
        due.is("5 law", x.count(6), 1);
        x.write(5, Texts.asLong("P0007"));
        due.is("5 more of it", x.town(), 3);
    }

    /** "(no MEETINGS were made ..)" */
    private static void promise5NoMeetingsWereMade() {
        PursesShare x = Texts.town("L0P0001P0002");
        for (int i = 0; i < 32; i++) x.meet(0, 1);
        due.is("5 full", x.meet(0, 1), FULL);
        due.is("5 town", x.town(), 2);
        due.is("5 made", x.count(3), 0);
        due.is("5 back", x.back(), STATE);
        due.is("5 there is room", x.meet(0, 1), 100001);
    }

    /** "(.. nothing is SEEN ..)" */
    private static void promise5NothingIsSeen() {
        PursesShare x = Texts.town(TWO);
        for (int i = 0; i < 8; i++) x.see(6, 2);
        due.is("5 full", x.see(6, 2), FULL);
        due.is("5 town", x.town(), 2);
        due.is("5 seen", x.count(4), 0);
        due.is("5 all fit", x.mayHold(99999, 0), 100000);
        due.is("5 there is room", x.see(6, 2), 1);
    }

    /** "(.. what was kept is gone)" */
    private static void promise5WhatWasKeptIsGone() {
        PursesShare x = Texts.town(TWO);
        x.keep(0);
        x.keep(1);
        due.is("5 town", x.town(), 2);
        due.is("5 slot 0", x.again(0), STATE);
        due.is("5 slot 1", x.again(1), STATE);
        due.is("5 kept anew", x.keep(0), 0);
        due.is("5 slot 0 anew", x.again(0), 0);
        due.is("5 slot 1 still", x.again(1), STATE);
    }

    /** "STATE: a FAULT." and "What is refused changes nothing." */
    private static void promise5Fault() {
        for (String wrong : new String[] {"", "L", LAW, LAW + PERSON, "L4" + PERSON + PERSON, TWO + "M", TWO + "M0", TWO + "x"}) {
            PursesShare x = Texts.town("L1P0012P0018M01");
            x.meet(0, 1);
            x.see(6, 2);
            x.keep(1);
            x.wipe();
            Texts.put(x, wrong);
            String told = "5 town of " + wrong;
            due.is(told, x.town(), STATE);
            due.is(told + ": purse", x.purse(0), 6);
            due.is(told + ": law", x.count(6), 1);
            due.is(told + ": the day", x.daily(0, 1), 1);
            due.is(told + ": seen", x.count(4), 1);
            due.is(told + ": the text", x.count(0), wrong.length());
            due.is(told + ": back", x.back(), 0);
            due.is(told + ": what was kept", x.again(1), 1);
        }
    }

    /** "UNKNOWN (there is no such PERSON ..)" */
    private static void promise6Unknown() {
        for (int people = 2; people <= 8; people++) {
            PursesShare x = Texts.town("L0" + "P0042".repeat(people));
            for (int person : new int[] {MIN, -1, people, people + 1, 8, MAX}) {
                due.is("6 of " + people + ": purse(" + person + ")", x.purse(person), UNKNOWN);
            }
            due.is("6 the first", x.purse(0), 42);
            due.is("6 the last", x.purse(people - 1), 42);
        }
    }

    /** "A PURSE holds 0 to 99999." */
    private static void promise6Holds() {
        PursesShare x = Texts.town(TWO, 99999);
        due.is("6 the greatest", x.purse(0), 99999);
        due.is("6 the least", x.purse(1), 0);
    }

    /** "A PURSE holds v (0 to 99999): what it held" */
    private static void promise7Sums() {
        PursesShare x = Texts.town("L0P0007P0008");
        due.is("7 the greatest", x.fill(1, 99999), 8);
        due.is("7 one less", x.fill(1, 99998), 99999);
        due.is("7 the least", x.fill(1, 0), 99998);
        due.is("7 one more", x.fill(1, 1), 0);
        for (int v : new int[] {MIN, -1, 100000, 100001, MAX}) due.is("7 fill " + v, x.fill(1, v), OUTSIDE);
        due.is("7 as it was", x.purse(1), 1);
        due.is("7 the other one", x.purse(0), 7);
    }

    /** "(the row of MEETINGS is empty then)" */
    private static void promise7TheRowIsEmpty() {
        PursesShare x = Texts.town("L0P0001P0002P0005");
        for (int i = 0; i < 32; i++) x.meet(0, 1);
        due.is("7 of one who met nobody", x.fill(2, 5), 5);
        due.is("7 made", x.count(3), 0);
        due.is("7 back", x.back(), STATE);
        due.is("7 there is room", x.meet(0, 1), 100001);
        due.is("7 back to what was filled", x.back(), 0);
        due.is("7 purse", x.purse(0), 1);
    }

    /** "UNKNOWN; OUTSIDE.", of several the first; what is refused changes nothing. */
    private static void promise7Refused() {
        PursesShare x = Texts.town("L0P0001P0002");
        x.meet(0, 1);
        for (int person : new int[] {MIN, -1, 2, 8, MAX}) {
            due.is("7 fill of " + person, x.fill(person, 5), UNKNOWN);
            due.is("7 unknown ahead of outside", x.fill(person, -1), UNKNOWN);
            due.is("7 unknown ahead of outside", x.fill(person, 100000), UNKNOWN);
        }
        due.is("7 outside", x.fill(0, 100000), OUTSIDE);
        due.is("7 outside", x.fill(0, -1), OUTSIDE);
        due.is("7 the row stays", x.count(3), 1);
        due.is("7 back", x.back(), 0);
        due.is("7 purse", x.purse(0), 1);
    }

    /** "LAW k: what it was. OUTSIDE." and "LAW k (0 to 3)" */
    private static void promise8Laws() {
        PursesShare x = Texts.town("L3P0012P0018");
        for (int k : new int[] {MIN, -1, 4, 5, MAX}) due.is("8 law " + k, x.law(k), OUTSIDE);
        due.is("8 as it was", x.count(6), 3);
        due.is("8 the least", x.law(0), 3);
        due.is("8 the greatest", x.law(3), 0);
        due.is("8 the same again", x.law(3), 3);
        due.is("8 it is", x.count(6), 3);
    }

    /** "NONE: there are not so many." */
    private static void promise9NotSoMany() {
        due.is("9 of none", Texts.town(TWO).daily(0, 0), NONE);
        PursesShare x = Texts.town(EIGHT + "M70" + "M01".repeat(14) + "M67");
        due.is("9 the first", x.daily(0, 0), 7);
        due.is("9 with the second", x.daily(0, 1), 0);
        due.is("9 the last", x.daily(15, 0), 6);
        due.is("9 with the second", x.daily(15, 1), 7);
        for (int i : new int[] {MIN, -1, 16, 17, MAX}) {
            due.is("9 first of " + i, x.daily(i, 0), NONE);
            due.is("9 second of " + i, x.daily(i, 1), NONE);
        }
        x.wipe();
        Texts.put(x, TWO + "M10");
        x.town();
        due.is("9 of fewer than there were", x.daily(1, 0), NONE);
    }

    /** "OUTSIDE: what." */
    private static void promise9What() {
        PursesShare x = Texts.town(TWO + "M10");
        for (int what : new int[] {MIN, -1, 2, 3, MAX}) {
            due.is("9 what " + what, x.daily(0, what), OUTSIDE);
            due.is("9 a refusal ahead of none", x.daily(1, what), OUTSIDE);
        }
        due.is("9 first", x.daily(0, 0), 1);
        due.is("9 second", x.daily(0, 1), 0);
    }
}
