/** Counts the answers that are not the ones that are due, and tells them. */
final class Due {
    /** A call that may throw. */
    interface Call {
        long answer();
    }

    private static int wrong = 0;
    private static int asked = 0;

    private Due() {
    }

    static void is(String what, long want, long got) {
        asked++;
        if (got != want) {
            tell(what, Long.toString(got), Long.toString(want));
        }
    }

    static void index(String what, Call call) {
        throwing(what, "IndexOutOfBoundsException", call);
    }

    static void argument(String what, Call call) {
        throwing(what, "IllegalArgumentException", call);
    }

    static void state(String what, Call call) {
        throwing(what, "IllegalStateException", call);
    }

    private static void throwing(String what, String want, Call call) {
        asked++;
        String got = answerOf(call);
        if (!got.equals(want)) {
            tell(what, got, want);
        }
    }

    /** The answer of a call, or the simple name of the very class that it throws. */
    static String answerOf(Call call) {
        try {
            return Long.toString(call.answer());
        } catch (RuntimeException thrown) {
            return thrown.getClass().getSimpleName();
        }
    }

    static void same(String what, String want, String got) {
        asked++;
        if (!want.equals(got)) {
            tell(what, got, want);
        }
    }

    private static void tell(String what, String got, String want) {
        wrong++;
        if (wrong <= 50) {
            System.out.println(what + " answered " + got + ", due is " + want);
        }
    }

    /** Ends the program, with 1 if an answer was wrong. */
    static void end() {
        System.out.println(asked - wrong + " of " + asked + " answers are as due");
        System.exit(wrong == 0 && asked > 0 ? 0 : 1);
    }
}
