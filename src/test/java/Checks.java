/** Whole rows, chains and orders held against what is due, and objects to begin with. */
final class Checks {
    static final Class<?> NO_PLACE = ArrayIndexOutOfBoundsException.class;
    static final Class<?> NEVER_MADE = NullPointerException.class;
    private static final int NONE = -5;

    private Checks() {
    }

    static RemakeNeeds2 with(int units) {
        RemakeNeeds2 x = new RemakeNeeds2();
        for (int u = 0; u < units; u++) {
            Due.due("with: unit", x.unit(), u);
        }
        return x;
    }

    /** The digest of a row, by the document's words. */
    static long digestOf(long... row) {
        long h = 17;
        for (long it : row) {
            h = (h ^ it) * 0x9E3779B97F4A7C15L;
            h = h ^ (h >>> 29);
        }
        return h;
    }

    static void rowIs(String what, RemakeNeeds2 x, int unit, long... want) {
        Due.due(what + ": size", x.size(unit), want.length);
        for (int i = 0; i < want.length && i < x.size(unit); i++) {
            Due.due(what + ": row " + i, x.row(unit, i), want[i]);
        }
    }

    static void keptIs(String what, RemakeNeeds2 x, int unit, long... want) {
        for (int i = 0; i < want.length; i++) {
            int place = i;
            String got = Due.answerOf(() -> x.kept(unit, place));
            Due.holds(what + ": kept " + i + " is " + want[i] + ", not " + got, got.equals(Long.toString(want[i])));
        }
        Due.throwsIt(what + ": kept behind", NO_PLACE, () -> x.kept(unit, want.length));
    }

    static void chainIs(String what, RemakeNeeds2 x, int unit, int name, int... want) {
        for (int i = 0; i * 2 < want.length; i++) {
            Due.due(what + ": unit of " + i, x.chain(unit, name, i, 0), want[i * 2]);
            Due.due(what + ": name of " + i, x.chain(unit, name, i, 1), want[i * 2 + 1]);
        }
        Due.due(what + ": behind", x.chain(unit, name, want.length / 2, 0), NONE);
        Due.due(what + ": behind", x.chain(unit, name, want.length / 2, 1), NONE);
    }

    static void orderIs(String what, RemakeNeeds2 x, int... want) {
        for (int i = 0; i < want.length; i++) {
            int place = i;
            String got = Due.answerOf(() -> x.order(place));
            Due.holds(what + ": place " + i + " is " + want[i] + ", not " + got, got.equals(Integer.toString(want[i])));
        }
        Due.throwsIt(what + ": behind", NO_PLACE, () -> x.order(want.length));
    }
}
