import java.math.BigInteger;
import java.util.ArrayList;
import java.util.HashMap;
import java.util.List;
import java.util.Map;
import java.util.regex.Pattern;

/** The document told once more, in the plainest way that the Java library allows: for comparison alone. */
final class PlainTown {
    private static final int UNKNOWN = -1, OUTSIDE = -2, STATE = -3, FULL = -4, NONE = -9;
    private static final Pattern BEGUN = Pattern.compile("(L([0-3](P\\d{4}|M[0-7]{2})*(P\\d{0,3}|M[0-7]?)?)?)?");

    private String text = "";
    private List<Integer> purses = List.of(0, 0);
    private List<int[]> day = new ArrayList<>();
    private int law = 0;
    private List<List<Integer>> rowOfPurses = new ArrayList<>();
    private List<int[]> seen = new ArrayList<>();
    private final PlainTown[] slots = new PlainTown[2];

    static PlainTown of(String text) {
        PlainTown made = new PlainTown();
        made.text = text;
        made.town();
        return made;
    }

    // ---- the town

    int write(int n, long v) {
        if (n < 1 || n > 8) return OUTSIDE;
        if (text.length() + n > 96) return FULL;
        StringBuilder more = new StringBuilder();
        for (int i = n - 1; i >= 0; i--) more.append((char) BigInteger.valueOf(v).shiftRight(8 * i).and(BigInteger.valueOf(255)).intValue());
        text += more;
        return text.length();
    }

    int wipe() {
        int was = text.length();
        text = "";
        return was;
    }

    int fault() {
        for (int length = 0; length <= text.length(); length++) {
            if (!canBegin(text.substring(0, length))) return length - 1;
        }
        return isWhole(text) ? NONE : text.length();
    }

    /** Can a TOWN begin with this? Where a meeting is cut off, some whole one must be possible. */
    private static boolean canBegin(String start) {
        if (!BEGUN.matcher(start).matches()) return false;
        int people = 0;
        int meetings = 0;
        for (int at = 2; at < start.length();) {
            boolean isPerson = start.charAt(at) == 'P';
            String part = start.substring(at, Math.min(start.length(), at + (isPerson ? 5 : 3)));
            if (isPerson && ++people > 8) return false;
            if (!isPerson && (++meetings > 16 || !someMeetingBeginsWith(part, people))) return false;
            at += part.length();
        }
        return true;
    }

    private static boolean someMeetingBeginsWith(String part, int people) {
        for (int i = 0; i < people; i++) {
            for (int j = 0; j < people; j++) {
                if (i != j && ("M" + i + j).startsWith(part)) return true;
            }
        }
        return false;
    }

    private static boolean isWhole(String text) {
        return Pattern.matches("L[0-3](M..)*(P\\d{4}(M\\d\\d)*){2,8}", text);
    }

    int town() {
        if (fault() != NONE) return STATE;
        List<Integer> told = new ArrayList<>();
        day = new ArrayList<>();
        for (int at = 2; at < text.length();) {
            if (text.charAt(at) == 'P') {
                told.add(Integer.parseInt(text.substring(at + 1, at + 5)));
                at += 5;
            } else {
                day.add(new int[] {text.charAt(at + 1) - '0', text.charAt(at + 2) - '0'});
                at += 3;
            }
        }
        purses = told;
        law = text.charAt(1) - '0';
        rowOfPurses = new ArrayList<>();
        seen = new ArrayList<>();
        slots[0] = null;
        slots[1] = null;
        return purses.size();
    }

    int purse(int person) {
        return is(person) ? purses.get(person) : UNKNOWN;
    }

    int fill(int person, int v) {
        if (!is(person)) return UNKNOWN;
        if (v < 0 || v > 99999) return OUTSIDE;
        int was = purses.get(person);
        purses = new ArrayList<>(purses);
        purses.set(person, v);
        rowOfPurses = new ArrayList<>();
        return was;
    }

    int law(int k) {
        if (k < 0 || k > 3) return OUTSIDE;
        int was = law;
        law = k;
        return was;
    }

    int daily(int i, int what) {
        if (what != 0 && what != 1) return OUTSIDE;
        return i < 0 || i >= day.size() ? NONE : day.get(i)[what];
    }

    private boolean is(int person) {
        return person >= 0 && person < purses.size();
    }

    // ---- meetings

    static int gcd(int a, int b) {
        return a == 0 || b == 0 ? 0 : BigInteger.valueOf(a).gcd(BigInteger.valueOf(b)).intValue();
    }

    /** Both purses behind one MEETING, as a new pair. */
    static int[] met(int law, int a, int b) {
        int g = gcd(a, b);
        if (a == b || g == 0) return new int[] {a, b};
        int less = Math.min(a, b);
        int more = Math.max(a, b);
        if (law == 0) {
            less += g;
            more -= g;
        } else if (law == 1) {
            less -= g;
            more += g;
        } else if (law == 2) {
            less += g / 2;
            more -= g / 2;
        } else {
            int goes = (more - less) / g;
            int often = goes / 2;
            if (often < 1) often = 1;
            less += g * often;
            more -= g * often;
        }
        if (less > 99999) less = 99999;
        if (more > 99999) more = 99999;
        return a < b ? new int[] {less, more} : new int[] {more, less};
    }

    private List<Integer> metIn(List<Integer> held, int i, int j) {
        List<Integer> then = new ArrayList<>(held);
        int[] both = met(law, held.get(i), held.get(j));
        then.set(i, both[0]);
        then.set(j, both[1]);
        return then;
    }

    private List<Integer> dayLater(List<Integer> held) {
        for (int[] meeting : day) held = metIn(held, meeting[0], meeting[1]);
        return held;
    }

    private int refusal(int person, int other) {
        if (!is(person) || !is(other)) return UNKNOWN;
        return person == other ? STATE : 0;
    }

    int shared(int person, int other) {
        if (refusal(person, other) != 0) return refusal(person, other);
        return gcd(purses.get(person), purses.get(other));
    }

    int meet(int person, int other) {
        if (refusal(person, other) != 0) return refusal(person, other);
        if (rowOfPurses.size() == 32) return FULL;
        rowOfPurses.add(purses);
        purses = metIn(purses, person, other);
        return 100000 + purses.get(person) - rowOfPurses.get(rowOfPurses.size() - 1).get(person);
    }

    int back() {
        if (rowOfPurses.isEmpty()) return STATE;
        purses = rowOfPurses.remove(rowOfPurses.size() - 1);
        return rowOfPurses.size();
    }

    int day() {
        rowOfPurses = new ArrayList<>();
        int changed = 0;
        for (int[] meeting : day) {
            List<Integer> then = metIn(purses, meeting[0], meeting[1]);
            if (!then.equals(purses)) changed++;
            purses = then;
        }
        return changed;
    }

    /** {ring, lead, what the first has behind n meetings}, all by making one meeting behind the other. */
    static long[] walk(int law, int a, int b, int n) {
        Map<Long, Integer> when = new HashMap<>();
        List<Integer> had = new ArrayList<>();
        for (int made = 0;; made++) {
            long both = a * 1000000L + b;
            if (when.containsKey(both)) {
                int lead = when.get(both);
                int ring = made - lead;
                int at = n < made ? n : lead + (n - lead) % ring;
                return new long[] {ring, lead, had.get(at)};
            }
            when.put(both, made);
            had.add(a);
            int[] then = met(law, a, b);
            a = then[0];
            b = then[1];
        }
    }

    int after(int person, int other, int n) {
        if (!is(person) || !is(other)) return UNKNOWN;
        if (n < 0 || n > 999999999) return OUTSIDE;
        if (person == other) return STATE;
        return (int) walk(law, purses.get(person), purses.get(other), n)[2];
    }

    int ring(int person, int other) {
        if (refusal(person, other) != 0) return refusal(person, other);
        return (int) walk(law, purses.get(person), purses.get(other), 0)[0];
    }

    int lead(int person, int other) {
        if (refusal(person, other) != 0) return refusal(person, other);
        return (int) walk(law, purses.get(person), purses.get(other), 0)[1];
    }

    int later(int person, int n) {
        if (!is(person)) return UNKNOWN;
        if (n < 0 || n > 300) return OUTSIDE;
        List<Integer> held = purses;
        for (int i = 0; i < n; i++) held = dayLater(held);
        return held.get(person);
    }

    int dayRing(boolean lead) {
        Map<List<Integer>, Integer> when = new HashMap<>();
        List<Integer> held = purses;
        for (int done = 0; done <= 300; done++) {
            Integer before = when.get(held);
            if (before != null) return lead ? before : done - before;
            when.put(held, done);
            held = dayLater(held);
        }
        return NONE;
    }

    private List<Integer> bestOrder(int person) {
        int most = -1;
        List<Integer> best = null;
        for (List<Integer> order : rowsOf(day.size(), day.size(), -1)) {
            List<Integer> held = purses;
            for (int i : order) held = metIn(held, day.get(i)[0], day.get(i)[1]);
            if (held.get(person) > most) {
                most = held.get(person);
                best = new ArrayList<>(order);
                best.add(most);
            }
        }
        return best;
    }

    /** All rows of so many unlike numbers below n without one, the first ones first. */
    private static List<List<Integer>> rowsOf(int size, int n, int without) {
        List<List<Integer>> rows = new ArrayList<>();
        if (size == 0) {
            rows.add(List.of());
            return rows;
        }
        for (List<Integer> row : rowsOf(size - 1, n, without)) {
            for (int i = 0; i < n; i++) {
                if (i == without || row.contains(i)) continue;
                List<Integer> longer = new ArrayList<>(row);
                longer.add(i);
                rows.add(longer);
            }
        }
        return rows;
    }

    int most(int person) {
        if (!is(person)) return UNKNOWN;
        if (day.size() > 6) return STATE;
        return bestOrder(person).get(day.size());
    }

    int mostAt(int person, int k) {
        if (!is(person)) return UNKNOWN;
        if (day.size() > 6) return STATE;
        return k < 0 || k >= day.size() ? NONE : bestOrder(person).get(k);
    }

    // ---- pennies, purses that were, ruin

    int pennies(int person, int other) {
        if (refusal(person, other) != 0) return refusal(person, other);
        int had = purses.get(person);
        for (int by = 0; by <= had; by++) {
            if (met(law, had - by, purses.get(other))[0] + by >= had) return by;
        }
        throw new IllegalStateException("a meeting of an empty purse costs nothing");
    }

    int see(int b, int g) {
        if (b < 1 || b > 99999 || g < 0 || g > 99999) return OUTSIDE;
        if (seen.size() == 8) return FULL;
        seen.add(new int[] {b, g});
        return seen.size();
    }

    int unsee() {
        int was = seen.size();
        seen = new ArrayList<>();
        return was;
    }

    private boolean mayHoldJust(int held) {
        for (int[] one : seen) {
            if (gcd(held, one[0]) != one[1]) return false;
        }
        return true;
    }

    int mayHold(int n, int what) {
        if (n < 0 || n > 99999 || what < 0 || what > 2) return OUTSIDE;
        int many = 0;
        int least = NONE;
        int greatest = NONE;
        for (int held = 0; held <= n; held++) {
            if (!mayHoldJust(held)) continue;
            many++;
            if (least == NONE) least = held;
            greatest = held;
        }
        return new int[] {many, least, greatest}[what];
    }

    private List<Integer> ruinRow(int person, int x) {
        for (int size = 0; size < purses.size(); size++) {
            for (List<Integer> row : rowsOf(size, purses.size(), person)) {
                int held = purses.get(person);
                for (int other : row) held = met(law, held, purses.get(other))[0];
                if (held <= x) return row;
            }
        }
        return null;
    }

    int ruin(int person, int x) {
        if (!is(person)) return UNKNOWN;
        if (x < 0 || x > 99999) return OUTSIDE;
        List<Integer> row = ruinRow(person, x);
        return row == null ? NONE : row.size();
    }

    int ruinAt(int person, int x, int k) {
        if (!is(person)) return UNKNOWN;
        if (x < 0 || x > 99999) return OUTSIDE;
        List<Integer> row = ruinRow(person, x);
        return row == null || k < 0 || k >= row.size() ? NONE : row.get(k);
    }

    int coin() {
        BigInteger all = BigInteger.ZERO;
        for (int held : purses) all = all.gcd(BigInteger.valueOf(held));
        return all.intValue();
    }

    int charm(int person) {
        if (!is(person)) return UNKNOWN;
        int held = purses.get(person);
        return BigInteger.valueOf(Math.max(0, held - 1)).nextProbablePrime().intValue() - held;
    }

    // ---- slots

    int keep(int slot) {
        if (slot != 0 && slot != 1) return UNKNOWN;
        slots[slot] = new PlainTown();
        slots[slot].takeFrom(this);
        return rowOfPurses.size();
    }

    int again(int slot) {
        if (slot != 0 && slot != 1) return UNKNOWN;
        if (slots[slot] == null) return STATE;
        takeFrom(slots[slot]);
        return rowOfPurses.size();
    }

    private void takeFrom(PlainTown from) {
        purses = from.purses;
        law = from.law;
        rowOfPurses = new ArrayList<>(from.rowOfPurses);
        seen = new ArrayList<>(from.seen);
    }

    int count(int what) {
        switch (what) {
            case 0: return text.length();
            case 1: return purses.size();
            case 2: return day.size();
            case 3: return rowOfPurses.size();
            case 4: return seen.size();
            case 5: return purses.stream().mapToInt(Integer::intValue).sum();
            case 6: return law;
            default: return OUTSIDE;
        }
    }
}
