/** Numbers that look thrown, the same ones in every run. */
final class Dice {
    private long state;

    Dice(long seed) {
        state = seed * 0x9E3779B97F4A7C15L + 12345;
    }

    /** 0 to below - 1. */
    int below(int below) {
        state = state * 6364136223846793005L + 1442695040888963407L;
        return (int) ((state >>> 33) % below);
    }

    int oneOf(int... values) {
        return values[below(values.length)];
    }

    /** Mostly 0 to n - 1, now and then a number about or far outside. */
    int about(int n) {
        if (below(12) > 0) return n < 1 ? 0 : below(n);
        return oneOf(-1, n, n + 1, Integer.MIN_VALUE, Integer.MAX_VALUE, -n);
    }

    /** Small sums, great ones, sums with many divisors, sums that are edges. */
    int sum() {
        switch (below(6)) {
            case 0: return below(30);
            case 1: return below(1000);
            case 2: return oneOf(1, 2, 3, 6, 12, 30, 60, 210) * below(470);
            case 3: return below(100000);
            case 4: return oneOf(0, 0, 1, 2, 99999, 99998, 99991, 33333, 50000, 30030, 60060, 90090, 98280);
            default: return 99999 - below(2000);
        }
    }
}
