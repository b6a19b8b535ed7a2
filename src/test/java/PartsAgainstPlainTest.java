/** Many like calls, each compared with PlainTown: texts near their limits, small pairs all, great ones some. */
public final class PartsAgainstPlainTest {
    private static final Due due = new Due("PartsAgainstPlainTest");
    private static final Dice dice = new Dice(77);

    public static void main(String[] args) {
        smallPairs();
        greatPairs();
        rows();
        texts();
        everyOneByteBehindAText();
        due.end();
    }

    private static void smallPairs() {
        for (int mine = 0; mine <= 60; mine++) {
            for (int theirs = 0; theirs <= 60; theirs++) pair(mine, theirs);
            // Full purses meet LAW 1's loss, be the other one full, too, or almost empty.
            pair(99999 - mine, 99999);
            pair(99999 - mine, 99990);
            pair(99999, mine);
        }
    }

    private static void greatPairs() {
        for (int i = 0; i < 150; i++) pair(dice.sum(), dice.sum());
        // Both have as many primes together as 199998 can have.
        for (int all : new int[] {30030, 39270, 60060, 90090, 99330, 180180, 190190}) {
            for (int i = 0; i < 5; i++) {
                int mine = Math.max(1, all - 99999) + dice.below(Math.min(all - 1, 199999 - all));
                pair(mine, all - mine);
            }
        }
        // Who is full loses what comes beyond, and may share much with the other one.
        for (int less : new int[] {33333, 30303, 27027, 24390, 11111, 9009, 37037, 66666, 90909}) {
            pair(less, 99999);
            pair(99999, less - 1);
            pair(99996, less);
        }
        for (int unit = 16600; unit < 20000; unit += 97) pair(unit, 5 * unit);
    }

    private static void pair(int mine, int theirs) {
        PursesShare x = new PursesShare();
        x.fill(0, mine);
        x.fill(1, theirs);
        for (int law = 0; law < 4; law++) {
            x.law(law);
            String told = " by law " + law + " of " + mine + " and " + theirs;
            int n = dice.below(2) == 0 ? dice.below(40) : dice.oneOf(999999999, 999999998, 50000, 777);
            long[] walked = PlainTown.walk(law, mine, theirs, n);
            due.is("ring" + told, x.ring(0, 1), walked[0]);
            due.is("lead" + told, x.lead(0, 1), walked[1]);
            due.is("after " + n + told, x.after(0, 1, n), walked[2]);
            due.is("pennies" + told, x.pennies(0, 1), plainPennies(law, mine, theirs));
        }
    }

    private static int plainPennies(int law, int mine, int theirs) {
        int by = 0;
        while (PlainTown.met(law, mine - by, theirs)[0] + by < mine) by++;
        return by;
    }

    /** Towns of eight with six meetings and little money, where many orders and rows are alike. */
    private static void rows() {
        for (int i = 0; i < 60; i++) {
            String text = "L" + dice.below(4) + person().repeat(3);
            for (int more = 0; more < 5; more++) text += person();
            for (int m = dice.below(3); m < 6; m++) text += meeting(8);
            PursesShare x = Texts.town(text);
            PlainTown plain = PlainTown.of(text);
            int who = dice.below(8);
            int goal = dice.below(x.purse(who) + 1);
            due.is("most of " + text, x.most(who), plain.most(who));
            for (int k = 0; k < 7; k++) {
                due.is("mostAt of " + text, x.mostAt(who, k), plain.mostAt(who, k));
                due.is("ruinAt of " + text, x.ruinAt(who, goal, k), plain.ruinAt(who, goal, k));
            }
            due.is("ruin of " + text, x.ruin(who, goal), plain.ruin(who, goal));
            due.is("dayRing of " + text, x.dayRing(false), plain.dayRing(false));
            due.is("dayRing, lead, of " + text, x.dayRing(true), plain.dayRing(true));
        }
    }

    private static String person() {
        return "P" + dice.oneOf(10, 20) + dice.below(10) + dice.below(10);
    }

    private static String meeting(int people) {
        int first = dice.below(people);
        return "M" + first + (first + 1 + dice.below(people - 1)) % people;
    }

    private static void texts() {
        for (int i = 0; i < 3000; i++) {
            StringBuilder text = new StringBuilder("L" + dice.below(4));
            int people = 0;
            int parts = dice.below(28);
            for (int part = 0; part < parts && text.length() < 90; part++) {
                boolean tells = people < 2 || dice.below(people < 8 ? 2 : 40) == 0;
                text.append(tells ? person() : meeting(dice.below(30) == 0 ? 9 : Math.min(8, people)));
                if (tells) people++;
            }
            if (dice.below(2) == 0) text.setCharAt(dice.below(text.length()), (char) dice.oneOf('P', 'M', 'L', '0', '3', '8', '9', 0, 47, 58, 255));
            if (dice.below(3) == 0) text.setLength(dice.below(text.length() + 1));
            if (text.length() > 96) text.setLength(96);
            fault(text.toString());
        }
    }

    private static void everyOneByteBehindAText() {
        String[] starts = {"", "L", "L1", "L1P", "L1P000", "L1P0000", "L1P0000P0000", "L1P0000P0000M", "L1P0000P0000M1",
            "L1P0000P0000M10", "L1" + "P0000".repeat(8), "L1P0000P0000" + "M10".repeat(16)};
        for (String start : starts) {
            for (int value = 0; value < 256; value++) fault(start + (char) value);
        }
    }

    private static void fault(String text) {
        PursesShare x = new PursesShare();
        Texts.put(x, text);
        PlainTown plain = new PlainTown();
        for (int i = 0; i < text.length(); i++) plain.write(1, text.charAt(i));
        due.is("fault of " + text, x.fault(), plain.fault());
        due.is("town of " + text, x.town(), plain.town());
        for (int what = 0; what < 7; what++) due.is("count " + what + " of " + text, x.count(what), plain.count(what));
    }
}
