/** What the tests share: they name each answer that is not the one that is due, and end with 1 then. */
final class Due {
    private static int wrong = 0;
    private static String told = "";

    private Due() {
    }

    /** A call that may throw. */
    interface Call {
        long answer();
    }

    /** What the document tells, and what is held against the answers from here on. */
    static void told(String sentence) {
        told = "[" + sentence + "] ";
    }

    static void due(String what, long got, long want) {
        if (got != want) {
            wrong++;
            System.out.println(told + what + " answered " + got + ", due is " + want);
        }
    }

    static void holds(String what, boolean does) {
        if (!does) {
            wrong++;
            System.out.println(told + what + " does not hold");
        }
    }

    static void throwsIt(String what, Class<?> wanted, Call call) {
        String got = answerOf(call);
        String want = "throws " + wanted.getName();
        if (!got.equals(want)) {
            wrong++;
            System.out.println(told + what + " gave " + got + ", due is " + want);
        }
    }

    /** The number, or the name of what was thrown. */
    static String answerOf(Call call) {
        try {
            return Long.toString(call.answer());
        } catch (RuntimeException e) {
            return "throws " + e.getClass().getName();
        }
    }

    static void finish() {
        System.out.println(wrong == 0 ? "all answers are as due" : wrong + " answers are not as due");
        if (wrong != 0) {
            System.exit(1);
        }
    }
}
