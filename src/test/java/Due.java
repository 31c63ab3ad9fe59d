/** What the tests share: answers against those that are due, and the end of a test. */
final class Due {
    /** A call whose answer is looked at (a boolean counts 1 or 0, no answer counts 0). */
    interface Call {
        long run();
    }

    private final String test;
    private int wrong = 0;

    Due(String test) {
        this.test = test;
    }

    void is(String call, long got, long want) {
        if (got != want) {
            wrong++;
            System.out.println(test + ": " + call + " answered " + got + ", due is " + want);
        }
    }

    void is(String call, boolean got, boolean want) {
        is(call, got ? 1 : 0, want ? 1 : 0);
    }

    void refusesArgument(String call, Call run) {
        is(call, thrownBy(run), "IllegalArgumentException");
    }

    void refusesState(String call, Call run) {
        is(call, thrownBy(run), "IllegalStateException");
    }

    void refusesIndex(String call, Call run) {
        is(call, thrownBy(run), "IndexOutOfBoundsException");
    }

    /** The simple name of what a call throws, or "nothing". */
    static String thrownBy(Call run) {
        try {
            run.run();
            return "nothing";
        } catch (RuntimeException e) {
            return e.getClass().getSimpleName();
        }
    }

    void is(String call, String got, String want) {
        if (!got.equals(want)) {
            wrong++;
            System.out.println(test + ": " + call + " threw " + got + ", due is " + want);
        }
    }

    int wrong() {
        return wrong;
    }

    void end() {
        System.out.println(test + ": " + (wrong == 0 ? "all answers are as due" : wrong + " answers are not as due"));
        if (wrong != 0) {
            System.exit(1);
        }
    }
}
