/** What the tests share: they name each answer that is not the one that is due, and end with 1 then. */
final class Due {
    private static int wrong = 0;

    private Due() {
    }

    /** A call that may throw. */
    interface Call {
        long answer();
    }

    static void due(String what, long got, long want) {
        if (got != want) {
            wrong++;
            System.out.println(what + " answered " + got + ", due is " + want);
        }
    }

    static void holds(String what, boolean does) {
        if (!does) {
            wrong++;
            System.out.println(what + " does not hold");
        }
    }

    static void throwsIt(String what, Class<?> wanted, Call call) {
        String got;
        try {
            got = "the answer " + call.answer();
        } catch (RuntimeException e) {
            got = e.getClass().getName();
        }
        if (!got.equals(wanted.getName())) {
            wrong++;
            System.out.println(what + " gave " + got + ", due is " + wanted.getName());
        }
    }

    static void finish() {
        System.out.println(wrong == 0 ? "all answers are as due" : wrong + " answers are not as due");
        if (wrong != 0) {
            System.exit(1);
        }
    }
}
