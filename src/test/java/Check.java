/** Counts the wrong answers of one test, and ends it with exit code 1 if there was one. */
final class Check {
    private static final int MOST_PRINTED = 20;

    private final String test;
    private int asked;
    private int wrong;

    Check(String test) {
        this.test = test;
    }

    interface Call {
        void make();
    }

    void due(String what, long got, long want) {
        asked++;
        if (got != want) {
            fail(what + " answered " + got + ", due is " + want);
        }
    }

    void due(String what, boolean got, boolean want) {
        due(what, got ? 1 : 0, want ? 1 : 0);
    }

    void same(String what, String got, String want) {
        asked++;
        if (!got.equals(want)) {
            fail(what + " left " + got + ", due is " + want);
        }
    }

    void thrown(String what, Class<?> exception, Call call) {
        asked++;
        try {
            call.make();
            fail(what + " threw nothing, due is " + exception.getSimpleName());
        } catch (RuntimeException e) {
            if (e.getClass() != exception) {
                fail(what + " threw " + e + ", due is " + exception.getSimpleName());
            }
        }
    }

    /** The call throws that exception, and the board answers the same before and behind it. */
    void refused(String what, SpectrumBoard board, Class<?> exception, Call call) {
        String before = Boards.answers(board);
        thrown(what, exception, call);
        same(what, Boards.answers(board), before);
    }

    void wrongNumber(String what, SpectrumBoard board, Call call) {
        refused(what, board, IllegalArgumentException.class, call);
    }

    void end() {
        System.out.println(test + ": " + asked + " answers, " + wrong + " wrong");
        if (wrong != 0) {
            System.exit(1);
        }
    }

    private void fail(String text) {
        wrong++;
        if (wrong <= MOST_PRINTED) {
            System.out.println(text);
        }
    }
}
