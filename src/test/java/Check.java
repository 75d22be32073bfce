/** Counts the wrong answers of one test, and ends it with exit code 1 if there was one. */
final class Check {
    private static final int MOST_PRINTED = 20;

    private final String test;
    private int asked;
    private int wrong;

    Check(String test) {
        this.test = test;
    }

    interface Call {
        void make();
    }

    void due(String what, long got, long want) {
        asked++;
        if (got != want) {
            fail(what + " answered " + got + ", due is " + want);
        }
    }

    void due(String what, boolean got, boolean want) {
        due(what, got ? 1 : 0, want ? 1 : 0);
    }

    /** The call throws that exception, and the board answers the same before and behind it. */
    void refused(String what, SpectrumBoard board, Class<?> exception, Call call) {
        asked++;
        String before = Boards.answers(board);
        try {
            call.make();
            fail(what + " threw nothing, due is " + exception.getSimpleName());
        } catch (RuntimeException e) {
            if (e.getClass() != exception) {
                fail(what + " threw " + e + ", due is " + exception.getSimpleName());
            }
        }
        if (!before.equals(Boards.answers(board))) {
            fail(what + " threw, but changed something");
        }
    }

    void wrongNumber(String what, SpectrumBoard board, Call call) {
        refused(what, board, IllegalArgumentException.class, call);
    }

    void end() {
        System.out.println(test + ": " + asked + " answers, " + wrong + " wrong");
        if (wrong != 0) {
            System.exit(1);
        }
    }

    private void fail(String text) {
        wrong++;
        if (wrong <= MOST_PRINTED) {
            System.out.println(text);
        }
    }
}
