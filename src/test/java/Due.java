/** Compares answers with those that are due, and ends a test's run. */
final class Due {
    private final String test;
    private int wrong = 0;
    private int looked = 0;

    Due(String test) {
        this.test = test;
    }

    void is(String call, long answer, long due) {
        looked++;
        if (answer == due) return;
        wrong++;
        if (wrong <= 50) System.out.println(test + ": " + call + " answered " + answer + ", due is " + due);
    }

    void holds(String what, boolean yes) {
        is(what, yes ? 1 : 0, 1);
    }

    boolean hasWrong() {
        return wrong > 0;
    }

    void end() {
        System.out.println(test + ": " + looked + " looked at, " + wrong + " wrong");
        if (wrong != 0 || looked == 0) System.exit(1);
    }
}
