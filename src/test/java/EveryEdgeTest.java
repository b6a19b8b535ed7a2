import java.util.ArrayList;
import java.util.Arrays;
import java.util.List;
import java.util.Set;
import java.util.TreeSet;
import java.util.function.Consumer;

/**
 * Every call with every number at, beside and far behind its edges, on objects that are new, full and between:
 * the answer and all that can be seen behind it are those of PlainTown, and what is refused or asked changes nothing.
 */
public final class EveryEdgeTest {
    private static final Due due = new Due("EveryEdgeTest");
    private static final int MIN = Integer.MIN_VALUE, MAX = Integer.MAX_VALUE;
    private static final Set<String> ASKING = Set.of("fault", "purse", "daily", "shared", "after", "ring", "lead", "later",
        "dayRing", "most", "mostAt", "pennies", "mayHold", "ruin", "ruinAt", "coin", "charm", "count");
    private static final int[] SUMS = edges(0, 1, 99998, 99999);

    private final String state;
    private final Consumer<Calls> begin;
    private final List<Integer> untouched;

    private EveryEdgeTest(String state, Consumer<Calls> begin) {
        this.state = state;
        this.begin = begin;
        untouched = begun(new PursesShare()).whole();
    }

    public static void main(String[] args) {
        for (EveryEdgeTest test : new EveryEdgeTest[] {
            new EveryEdgeTest("a new object", x -> { }),
            new EveryEdgeTest("some of all", EveryEdgeTest::someOfAll),
            new EveryEdgeTest("all full", EveryEdgeTest::allFull),
            new EveryEdgeTest("eight people", EveryEdgeTest::eightPeople),
            new EveryEdgeTest("full purses", EveryEdgeTest::fullPurses)}) test.everyCall();
        due.end();
    }

    // ---- the objects that are called

    private static void someOfAll(Calls x) {
        x.put("L1P0012P0018P0005M01M20");
        x.call("town");
        x.put("M12x");
        x.call("see", 12, 4);
        x.call("meet", 0, 1);
        x.call("meet", 1, 2);
        x.call("keep", 1);
        x.call("law", 3);
        x.call("meet", 2, 0);
        x.call("see", 10, 2);
    }

    /** A TEXT of 96 bytes, 16 MEETINGS of THE DAY, 32 made, 8 SEEN, both slots. */
    private static void allFull(Calls x) {
        x.put("L0P0012P0018P0035" + "M01M12M20M10".repeat(4));
        x.call("town");
        x.put("M01" + "P".repeat(96 - 68));
        for (int i = 0; i < 31; i++) x.call("meet", i % 3, (i + 1) % 3);
        x.call("keep", 0);
        x.call("meet", 2, 1);
        for (int i = 0; i < 7; i++) x.call("see", 12 + i, 1);
        x.call("keep", 1);
        x.call("see", 49, 7);
    }

    private static void eightPeople(Calls x) {
        x.put("L0P0100P0001P0001P0050P0060P0000P0007P0100M01M37M74M56M02M70");
        x.call("town");
        x.call("meet", 0, 3);
        x.call("keep", 0);
        x.call("meet", 7, 4);
    }

    /** More MEETINGS of THE DAY than BEST ORDER looks at, and purses that can hold no more. */
    private static void fullPurses(Calls x) {
        x.put("L1P0000P0000P0001" + "M01".repeat(7));
        x.call("town");
        x.call("wipe");
        x.call("fill", 0, 99999);
        x.call("fill", 1, 66666);
        x.call("see", 99999, 99999);
    }

    // ---- the calls

    private void everyCall() {
        Calls x = begun(new PlainTown());
        int[] people = edges(0, 1, 2, x.call("count", 1) - 1, 7);
        int[] daily = edges(0, 1, x.call("count", 2) - 1, 15);
        askTown(people, daily);
        askMeetings(people, daily);
        askPennies(people);
        for (String name : new String[] {"keep", "again"}) each(name, edges(0, 1));
        each("count", edges(0, 1, 2, 3, 4, 5, 6));
    }

    private void askTown(int[] people, int[] daily) {
        for (long v : new long[] {'P', 'M', '0', 'L' << 8 | '0', -1L}) {
            for (int n : edges(1, 2, 7, 8)) one("write", n, v);
        }
        for (String name : new String[] {"wipe", "fault", "town"}) one(name);
        each("purse", people);
        each("fill", people, SUMS);
        each("law", edges(0, 1, 2, 3));
        each("daily", daily, edges(0, 1));
    }

    private void askMeetings(int[] people, int[] daily) {
        for (String name : new String[] {"shared", "meet", "ring", "lead"}) each(name, people, people);
        for (String name : new String[] {"back", "day"}) one(name);
        for (int person : people) {
            for (int other : people) {
                for (int n : edges(0, 1, 2, 999999998, 999999999)) one("after", person, other, n);
            }
        }
        each("later", people, edges(0, 1, 299, 300));
        one("dayRing", false);
        one("dayRing", true);
        each("most", people);
        each("mostAt", people, daily);
    }

    private void askPennies(int[] people) {
        each("pennies", people, people);
        each("see", edges(1, 99999), edges(0, 99999));
        one("unsee");
        each("mayHold", SUMS, edges(0, 1, 2));
        each("ruin", people, SUMS);
        for (int person : people) {
            for (int x : SUMS) {
                for (int k : edges(0, 1, 6)) one("ruinAt", person, x, k);
            }
        }
        one("coin");
        each("charm", people);
    }

    /** What is told, what is one beside it, and what is as far away as can be. */
    private static int[] edges(int... told) {
        Set<Integer> all = new TreeSet<>(List.of(MIN, -1, MAX));
        for (int value : told) all.addAll(List.of(value - 1, value, value + 1));
        return all.stream().mapToInt(Integer::intValue).toArray();
    }

    private void each(String name, int[] firsts) {
        for (int first : firsts) one(name, first);
    }

    private void each(String name, int[] firsts, int[] seconds) {
        for (int first : firsts) {
            for (int second : seconds) one(name, first, second);
        }
    }

    private Calls begun(Object on) {
        Calls x = new Calls(on);
        begin.accept(x);
        return x;
    }

    private void one(String name, Object... values) {
        Calls x = begun(new PursesShare());
        Calls plain = begun(new PlainTown());
        int answer = x.call(name, values);
        String told = state + ": " + name + Arrays.toString(values);
        due.is(told, answer, plain.call(name, values));
        List<Integer> then = x.whole();
        due.holds(told + " left what is due", then.equals(plain.whole()));
        boolean refused = answer <= PursesShare.UNKNOWN && answer >= PursesShare.FULL;
        if (refused || ASKING.contains(name)) due.holds(told + " changed nothing", then.equals(untouched));
    }
}
