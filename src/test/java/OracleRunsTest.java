/** Long runs of calls, the same each time: the class and the oracle must answer alike, call by call. */
public final class OracleRunsTest {
    private static final int CALLS = 512;

    private long seed;
    private final int nameSpan;
    private final int unitSpan;
    private final int buildWeight;
    private RemakeNeeds2 x = new RemakeNeeds2();
    private Oracle o = new Oracle();
    private String call = "";
    private static int calls = 0;

    private OracleRunsTest(long seed, int nameSpan, int unitSpan, int buildWeight) {
        this.seed = seed;
        this.nameSpan = nameSpan;
        this.unitSpan = unitSpan;
        this.buildWeight = buildWeight;
    }

    public static void main(String[] args) {
        for (int run = 0; run < 120; run++) {
            int nameSpan = new int[] {2, 4, 8, 32}[run % 4];
            int unitSpan = new int[] {3, 6, 16}[run % 3];
            new OracleRunsTest(run * 7919L + 1, nameSpan, unitSpan, run % 5).walk();
        }
        System.out.println(calls + " calls held against the oracle");
        Due.finish();
    }

    private int pick(int bound) {
        seed = seed * 6364136223846793005L + 1442695040888963407L;
        return (int) ((seed >>> 33) % bound);
    }

    /** Mostly a number of the span, now and then one at or beyond an edge. */
    private int number(int span, int edge) {
        switch (pick(60)) {
            case 0:
                return -1;
            case 1:
                return edge;
            case 2:
                return Integer.MIN_VALUE;
            case 3:
                return Integer.MAX_VALUE;
            case 4:
                return edge - 1;
            default:
                return pick(span);
        }
    }

    private int unit() {
        return number(unitSpan, 16);
    }

    private int name() {
        return number(nameSpan, 32);
    }

    private int sort() {
        return pick(40) == 0 ? pick(8) - 3 : pick(3);
    }

    private long digest() {
        int kind = pick(6);
        return kind == 0 ? Long.MAX_VALUE - pick(3) : kind == 1 ? Long.MIN_VALUE + pick(3) : pick(4);
    }

    private boolean coin() {
        return pick(2) == 0;
    }

    private void same(String what, long got, long want) {
        calls++;
        Due.due(call + " then " + what, got, want);
    }

    private void walk() {
        for (int u = 0; u < unitSpan; u++) {
            same("unit()", x.unit(), o.unit());
        }
        for (int i = 0; i < CALLS - unitSpan; i++) {
            if (pick(5) < 3) {
                change();
            } else {
                ask();
            }
            if (i % 64 == 63) {
                compareAll();
            }
        }
    }

    private void change() {
        int kind = pick(100);
        if (kind < 30) {
            give(unit(), sort(), name(), digest(), pick(5) == 0);
        } else if (kind < 34) {
            int u = unit(), s = sort(), n = name();
            call = "take(" + u + ", " + s + ", " + n + ")";
            same("it", x.take(u, s, n), o.take(u, s, n));
        } else if (kind < 46 + buildWeight * 3) {
            int u = unit(), n = name(), of = name();
            call = "build(" + u + ", " + n + ", " + of + ")";
            same("it", x.build(u, n, of), o.build(u, n, of));
        } else if (kind < 66) {
            int u = unit(), v = unit();
            call = "way(" + u + ", " + v + ")";
            same("it", x.way(u, v), o.way(u, v));
        } else if (kind < 80) {
            int u = unit(), s = sort(), n = name();
            call = "use(" + u + ", " + s + ", " + n + ")";
            same("it", x.use(u, s, n), o.use(u, s, n));
        } else if (kind < 83) {
            int u = unit(), i = number(12, 12);
            call = "unuse(" + u + ", " + i + ")";
            same("it", x.unuse(u, i), o.unuse(u, i));
        } else if (kind < 88) {
            int u = unit();
            boolean on = pick(4) > 0;
            call = "reader(" + u + ", " + on + ")";
            same("it", x.reader(u, on), o.reader(u, on));
        } else if (kind < 95) {
            int u = unit(), by = pick(6) == 0 ? -5 : unit();
            call = "generated(" + u + ", " + by + ")";
            same("it", x.generated(u, by), o.generated(u, by));
        } else {
            rare();
        }
    }

    private void give(int u, int s, int n, long d, boolean hidden) {
        call = "give(" + u + ", " + s + ", " + n + ", " + d + ", " + hidden + ")";
        same("it", x.give(u, s, n, d, hidden), o.give(u, s, n, d, hidden));
    }

    private void rare() {
        int u = unit();
        switch (pick(12)) {
            case 0:
                call = "remove(" + u + ")";
                same("it", x.remove(u), o.remove(u));
                break;
            case 1:
            case 2:
            case 3:
                call = "unway(" + u + ")";
                same("it", x.unway(u), o.unway(u));
                break;
            case 4:
                if (pick(6) == 0) {
                    call = "clear()";
                    same("it", x.clear(), o.clear());
                }
                break;
            default:
                call = "unit()";
                same("it", x.unit(), o.unit());
        }
    }

    private void ask() {
        int u = unit(), n = name(), s = sort();
        switch (pick(20)) {
            case 0:
                same("found", x.found(u, s, n), o.found(u, s, n));
                break;
            case 1:
                same("value", x.value(u, n), o.value(u, n));
                break;
            case 2:
                same("round", x.round(u, n), o.round(u, n));
                break;
            case 3:
                int i = number(6, 160), what = pick(20) == 0 ? pick(7) - 3 : pick(2);
                same("chain(" + u + ", " + n + ", " + i + ", " + what + ")", x.chain(u, n, i, what),
                        o.chain(u, n, i, what));
                break;
            case 4:
                same("missing", x.missing(u), o.missing(u));
                break;
            case 5:
                same("size", x.size(u), o.size(u));
                break;
            case 6:
            case 7:
                askRows(u, number(40, 680));
                break;
            case 8:
                same("why(" + u + ")", x.why(u), o.why(u));
                break;
            case 9:
                same("needs", x.needs(), o.needs());
                break;
            case 10:
            case 11:
                int m = pick(8) == 0 ? pick(24) - 4 : pick(17);
                call = "make(" + m + ")";
                same("it", x.make(m), o.make(m));
                break;
            case 12:
                call = "force(" + u + ")";
                same("it", x.force(u), o.force(u));
                break;
            case 13:
                same("output", x.output(u), o.output(u));
                break;
            case 14:
                same("anew", x.anew(), o.anew());
                break;
            case 15:
                same("coarse", x.coarse(), o.coarse());
                break;
            case 16:
                int p = number(16, 16);
                same("order(" + p + ")", number(() -> x.order(p)), number(() -> o.order(p)));
                break;
            case 17:
                same("ring(" + u + ")", x.ring(u), o.ring(u));
                break;
            case 18:
                int v = unit();
                same("leads(" + u + ", " + v + ")", x.leads(u, v), o.leads(u, v));
                break;
            default:
                int c = pick(9) - 2;
                same("count(" + c + ")", x.count(c), o.count(c));
        }
    }

    private void askRows(int u, int i) {
        same("row(" + u + ", " + i + ")", number(() -> x.row(u, i)), number(() -> o.row(u, i)));
        same("kept(" + u + ", " + i + ")", number(() -> x.kept(u, i)), number(() -> o.kept(u, i)));
    }

    /** A number for each answer, and one for each exception that no row is likely to hold. */
    private static long number(Due.Call call) {
        try {
            return call.answer();
        } catch (ArrayIndexOutOfBoundsException e) {
            return 0x7AAA_AAAA_AAAA_AAA1L;
        } catch (NullPointerException e) {
            return 0x7AAA_AAAA_AAAA_AAA2L;
        }
    }

    private void compareAll() {
        for (int u = -1; u <= 16; u++) {
            same("size", x.size(u), o.size(u));
            same("why", x.why(u), o.why(u));
            same("missing", x.missing(u), o.missing(u));
            same("output", x.output(u), o.output(u));
            same("ring", x.ring(u), o.ring(u));
            for (int v = -1; v <= 16; v++) {
                same("leads", x.leads(u, v), o.leads(u, v));
            }
            int size = Math.max(o.size(u), 0);
            for (int i = -1; i <= size; i++) {
                askRows(u, i);
            }
            for (int n = 0; n < nameSpan; n++) {
                compareName(u, n);
            }
        }
        same("needs", x.needs(), o.needs());
        same("coarse", x.coarse(), o.coarse());
        same("anew", x.anew(), o.anew());
        for (int i = -1; i < 6; i++) {
            same("count(" + i + ")", x.count(i), o.count(i));
        }
        for (int i = -1; i <= 16; i++) {
            int place = i;
            same("order", number(() -> x.order(place)), number(() -> o.order(place)));
        }
    }

    private void compareName(int u, int n) {
        same("value", x.value(u, n), o.value(u, n));
        same("round", x.round(u, n), o.round(u, n));
        for (int s = 0; s < 3; s++) {
            same("found", x.found(u, s, n), o.found(u, s, n));
        }
        for (int i = -1; i < 10; i++) {
            same("chain", x.chain(u, n, i, 0), o.chain(u, n, i, 0));
            same("chain", x.chain(u, n, i, 1), o.chain(u, n, i, 1));
        }
    }
}
