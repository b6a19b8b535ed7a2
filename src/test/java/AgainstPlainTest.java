/** Long runs of mixed calls, every answer compared with that of PlainTown. */
public final class AgainstPlainTest {
    private static final Due due = new Due("AgainstPlainTest");
    private static final int RUNS = 200;
    /** The document promises 512 calls of one object; the last round of a run may make some 60. */
    private static final int CALLS = 450;

    private final Dice dice;
    private PursesShare x = new PursesShare();
    private PlainTown plain = new PlainTown();
    private final StringBuilder told = new StringBuilder();
    private int calls = 0;

    private AgainstPlainTest(int seed) {
        dice = new Dice(seed);
    }

    public static void main(String[] args) {
        for (int seed = 0; seed < RUNS && !due.hasWrong(); seed++) {
            AgainstPlainTest run = new AgainstPlainTest(seed);
            while (run.calls < CALLS && !due.hasWrong()) run.call();
            if (due.hasWrong()) System.out.println("seed " + seed + ":" + run.told);
        }
        due.end();
    }

    private void same(String call, long answer, long should) {
        calls++;
        told.append("\n  ").append(call).append(" = ").append(answer);
        due.is(call, answer, should);
    }

    private int person() {
        return dice.about(plain.count(1));
    }

    private void call() {
        int dear = dice.below(100);
        if (dear < 4) newTown();
        else if (dear < 30) townCall();
        else if (dear < 62) meetingCall();
        else if (dear < 85) pennyCall();
        else slotCall();
        int what = dice.below(7);
        same("count(" + what + ")", x.count(what), plain.count(what));
    }

    private void newTown() {
        if (dice.below(3) > 0) same("wipe()", x.wipe(), plain.wipe());
        StringBuilder text = new StringBuilder("L").append(dice.below(4));
        int people = 0;
        int parts = 2 + dice.below(16);
        for (int i = 0; i < parts; i++) {
            if (people < 2 || dice.below(3) == 0) {
                people++;
                text.append('P');
                for (int k = 0; k < 4; k++) text.append(dice.below(3) == 0 ? 0 : dice.below(10));
            } else {
                int first = dice.below(people);
                text.append('M').append(first).append((first + 1 + dice.below(people - 1)) % people);
            }
        }
        if (dice.below(6) == 0) text.setCharAt(dice.below(text.length()), "PML0129x".charAt(dice.below(8)));
        for (int at = 0; at < text.length();) {
            int n = Math.min(1 + dice.below(8), text.length() - at);
            long v = Texts.asLong(text.substring(at, at + n));
            same("write(" + n + ", " + v + ")", x.write(n, v), plain.write(n, v));
            at += n;
        }
        same("fault()", x.fault(), plain.fault());
        same("town()", x.town(), plain.town());
        for (int i = 0; i < plain.count(1); i++) {
            if (dice.below(2) == 0) fill(i, dice.sum());
        }
    }

    private void fill(int person, int v) {
        same("fill(" + person + ", " + v + ")", x.fill(person, v), plain.fill(person, v));
    }

    private void townCall() {
        int n = dice.about(9);
        long v = dice.oneOf('P', 'M', '0', '1', '9') | (long) dice.below(70000) << 8;
        switch (dice.below(9)) {
            case 0: same("write(" + n + ", " + v + ")", x.write(n, v), plain.write(n, v)); break;
            case 1: if (dice.below(4) == 0) same("wipe()", x.wipe(), plain.wipe()); break;
            case 2: same("fault()", x.fault(), plain.fault()); break;
            case 3: if (dice.below(4) == 0) same("town()", x.town(), plain.town()); break;
            case 4: { int p = person(); same("purse(" + p + ")", x.purse(p), plain.purse(p)); break; }
            case 5: fill(person(), dice.below(9) > 0 ? dice.sum() : dice.about(100000)); break;
            case 6: { int k = dice.about(4); same("law(" + k + ")", x.law(k), plain.law(k)); break; }
            default: {
                int i = dice.about(plain.count(2));
                int what = dice.about(2);
                same("daily(" + i + ", " + what + ")", x.daily(i, what), plain.daily(i, what));
            }
        }
    }

    private void meetingCall() {
        int p = person();
        int o = person();
        int n = dice.below(2) == 0 ? dice.below(60) : dice.about(1000000000);
        String both = "(" + p + ", " + o + ")";
        switch (dice.below(11)) {
            case 0: same("shared" + both, x.shared(p, o), plain.shared(p, o)); break;
            case 1: case 2: case 3: same("meet" + both, x.meet(p, o), plain.meet(p, o)); break;
            case 4: same("back()", x.back(), plain.back()); break;
            case 5: if (dice.below(3) == 0) same("day()", x.day(), plain.day()); break;
            case 6: same("after" + both + " " + n, x.after(p, o, n), plain.after(p, o, n)); break;
            case 7: same("ring" + both, x.ring(p, o), plain.ring(p, o)); break;
            case 8: same("lead" + both, x.lead(p, o), plain.lead(p, o)); break;
            case 9: dayCall(p); break;
            default: orderCall(p, dice.about(6));
        }
    }

    private void dayCall(int p) {
        int n = dice.about(301);
        same("later(" + p + ", " + n + ")", x.later(p, n), plain.later(p, n));
        same("dayRing(false)", x.dayRing(false), plain.dayRing(false));
        same("dayRing(true)", x.dayRing(true), plain.dayRing(true));
    }

    private void orderCall(int p, int k) {
        same("most(" + p + ")", x.most(p), plain.most(p));
        same("mostAt(" + p + ", " + k + ")", x.mostAt(p, k), plain.mostAt(p, k));
    }

    private void pennyCall() {
        int p = person();
        int o = person();
        switch (dice.below(9)) {
            case 0: same("pennies(" + p + ", " + o + ")", x.pennies(p, o), plain.pennies(p, o)); break;
            case 1: case 2: seeCall(); break;
            case 3: if (dice.below(3) == 0) same("unsee()", x.unsee(), plain.unsee()); break;
            case 4: {
                int n = dice.below(9) == 0 ? dice.about(100000) : dice.sum();
                int what = dice.about(3);
                same("mayHold(" + n + ", " + what + ")", x.mayHold(n, what), plain.mayHold(n, what));
                break;
            }
            case 5: case 6: ruinCall(p); break;
            case 7: same("coin()", x.coin(), plain.coin()); break;
            default: same("charm(" + p + ")", x.charm(p), plain.charm(p));
        }
    }

    /** Mostly what one purse can have shared, so that something fits. */
    private void seeCall() {
        int b = dice.below(9) == 0 ? dice.about(100000) : dice.sum();
        int g = dice.below(9) == 0 ? dice.about(100000) : PlainTown.gcd(Math.abs(b % 100000), 7560 * (1 + dice.below(3)));
        same("see(" + b + ", " + g + ")", x.see(b, g), plain.see(b, g));
    }

    private void ruinCall(int p) {
        int held = Math.max(0, plain.purse(p));
        int goal = dice.below(9) == 0 ? dice.about(100000) : dice.below(held + 1);
        int k = dice.about(4);
        if (dice.below(2) == 0) goal = Math.max(0, held - dice.below(40));
        same("ruin(" + p + ", " + goal + ")", x.ruin(p, goal), plain.ruin(p, goal));
        same("ruinAt(" + p + ", " + goal + ", " + k + ")", x.ruinAt(p, goal, k), plain.ruinAt(p, goal, k));
    }

    private void slotCall() {
        int slot = dice.about(2);
        switch (dice.below(4)) {
            case 0: same("keep(" + slot + ")", x.keep(slot), plain.keep(slot)); break;
            case 1: same("again(" + slot + ")", x.again(slot), plain.again(slot)); break;
            default: {
                int what = dice.about(7);
                same("count(" + what + ")", x.count(what), plain.count(what));
            }
        }
    }
}
