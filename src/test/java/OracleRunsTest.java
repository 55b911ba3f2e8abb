import java.util.ArrayList;
import java.util.List;

/**
 * Long runs of calls, the same each time: the class and the oracle must answer alike, call by call.
 * No object is asked more than the 512 calls that the document promises: what asks for everything asks other
 * objects, which the same changes have brought where the object of the run is.
 */
public final class OracleRunsTest {
    private static final int CALLS = 512;
    /** Far fewer than the calls of a run: the rest is for questions to the other objects. */
    private static final int CHANGES = 400;
    private static long compared = 0;

    private long seed;
    private final int nameSpan;
    private final int unitSpan;
    private final int buildWeight;
    private final RemakeNeeds2 x = new RemakeNeeds2();
    private final Oracle o = new Oracle();
    private final List<Answers.Step> changes = new ArrayList<>();
    private RemakeNeeds2 other;
    private int otherLeft = 0;
    private String lastChange = "";

    private OracleRunsTest(long seed, int nameSpan, int unitSpan, int buildWeight) {
        this.seed = seed;
        this.nameSpan = nameSpan;
        this.unitSpan = unitSpan;
        this.buildWeight = buildWeight;
    }

    public static void main(String[] args) {
        for (int run = 0; run < 120; run++) {
            int nameSpan = new int[] {2, 4, 8, 32}[run % 4];
            int unitSpan = new int[] {3, 6, 16}[run % 3];
            new OracleRunsTest(run * 7919L + 1, nameSpan, unitSpan, run % 5).walk();
        }
        for (int run = 0; run < 60; run++) {
            new OracleRunsTest(run * 104729L + 7, 4 + run % 7, 1 + run % 3, 0).walkThick();
        }
        System.out.println(compared + " answers held against the oracle");
        Due.finish();
    }

    private int pick(int bound) {
        seed = seed * 6364136223846793005L + 1442695040888963407L;
        return (int) ((seed >>> 33) % bound);
    }

    /** Mostly a number of the span, now and then one at or beyond an edge. */
    private int number(int span, int edge) {
        switch (pick(60)) {
            case 0:
                return -1;
            case 1:
                return edge;
            case 2:
                return Integer.MIN_VALUE;
            case 3:
                return Integer.MAX_VALUE;
            case 4:
                return edge - 1;
            default:
                return pick(span);
        }
    }

    private int unit() {
        return number(unitSpan, 16);
    }

    private int name() {
        return number(nameSpan, 32);
    }

    private int sort() {
        return pick(40) == 0 ? pick(8) - 3 : pick(3);
    }

    private long digest() {
        int kind = pick(6);
        return kind == 0 ? Long.MAX_VALUE - pick(3) : kind == 1 ? Long.MIN_VALUE + pick(3) : pick(4);
    }

    private void same(String what, Due.Call got, Due.Call want) {
        compared++;
        String due = Due.answerOf(want);
        String answer = Due.answerOf(got);
        if (!answer.equals(due)) {
            Due.holds("behind " + lastChange + " " + what + " is " + due + ", not " + answer, false);
        }
    }

    /** A call that may change something. */
    private void changed(String what, Answers.Step step, Due.Call want) {
        lastChange = what;
        changes.add(step);
        otherLeft = 0;
        same("it", () -> step.on(x), want);
    }

    /** A call that only asks, of the object of the run. */
    private void asked(String what, Answers.Step step, Due.Call want) {
        same(what, () -> step.on(x), want);
    }

    /** A call that only asks, of another object that stands where that of the run does. */
    private void askedOther(String what, Answers.Step step, Due.Call want) {
        if (otherLeft <= 0) {
            other = new RemakeNeeds2();
            for (Answers.Step change : changes) {
                change.on(other);
            }
            otherLeft = CALLS - changes.size();
        }
        otherLeft--;
        same(what, () -> step.on(other), want);
    }

    private void walk() {
        for (int u = 0; u < unitSpan; u++) {
            changed("unit()", y -> y.unit(), () -> o.unit());
        }
        for (int i = unitSpan; i < CALLS; i++) {
            if (pick(5) < 3 && changes.size() < CHANGES) {
                change();
            } else {
                ask();
            }
            if (i % 64 == 63) {
                compareAll();
            }
        }
    }

    /** Constants that are built of many others: rings within rings, and chains that meet again and again. */
    private void walkThick() {
        for (int u = 0; u < unitSpan; u++) {
            changed("unit()", y -> y.unit(), () -> o.unit());
        }
        for (int u = 0; u < unitSpan; u++) {
            giveThick(u);
            for (int v = unitSpan - 1; v >= 0; v--) {
                int unit = u, other = v;
                changed("way(" + u + ", " + v + ")", y -> y.way(unit, other), () -> o.way(unit, other));
            }
        }
        compareAll();
        changed("make(16)", y -> y.make(16), () -> o.make(16));
        int u = pick(unitSpan), n = pick(nameSpan);
        changed("take(" + u + ", 1, " + n + ")", y -> y.take(u, 1, n), () -> o.take(u, 1, n));
        compareAll();
    }

    private void giveThick(int u) {
        for (int n = 0; n < nameSpan; n++) {
            int name = n;
            long d = digest();
            boolean hidden = pick(6) == 0;
            if (pick(5) > 0) {
                changed("give(" + u + ", 1, " + n + ")", y -> y.give(u, 1, name, d, hidden),
                        () -> o.give(u, 1, name, d, hidden));
            }
            for (int times = pick(4); times > 0; times--) {
                int of = pick(nameSpan);
                changed("build(" + u + ", " + n + ", " + of + ")", y -> y.build(u, name, of),
                        () -> o.build(u, name, of));
            }
        }
    }

    private void change() {
        int kind = pick(100);
        int u = unit();
        if (kind < 34) {
            giveOrTake(u, kind < 30);
        } else if (kind < 46 + buildWeight * 3) {
            int n = name(), of = name();
            changed("build(" + u + ", " + n + ", " + of + ")", y -> y.build(u, n, of), () -> o.build(u, n, of));
        } else if (kind < 66) {
            int v = unit();
            changed("way(" + u + ", " + v + ")", y -> y.way(u, v), () -> o.way(u, v));
        } else if (kind < 80) {
            int s = sort(), n = name();
            changed("use(" + u + ", " + s + ", " + n + ")", y -> y.use(u, s, n), () -> o.use(u, s, n));
        } else if (kind < 83) {
            int i = number(12, 12);
            changed("unuse(" + u + ", " + i + ")", y -> y.unuse(u, i), () -> o.unuse(u, i));
        } else if (kind < 88) {
            boolean on = pick(4) > 0;
            changed("reader(" + u + ", " + on + ")", y -> y.reader(u, on), () -> o.reader(u, on));
        } else if (kind < 95) {
            int by = pick(6) == 0 ? -5 : unit();
            changed("generated(" + u + ", " + by + ")", y -> y.generated(u, by), () -> o.generated(u, by));
        } else {
            rare(u);
        }
    }

    private void giveOrTake(int u, boolean give) {
        int s = sort(), n = name();
        if (!give) {
            changed("take(" + u + ", " + s + ", " + n + ")", y -> y.take(u, s, n), () -> o.take(u, s, n));
            return;
        }
        long d = digest();
        boolean hidden = pick(5) == 0;
        changed("give(" + u + ", " + s + ", " + n + ", " + d + ", " + hidden + ")",
                y -> y.give(u, s, n, d, hidden), () -> o.give(u, s, n, d, hidden));
    }

    private void rare(int u) {
        int kind = pick(12);
        if (kind == 0) {
            changed("remove(" + u + ")", y -> y.remove(u), () -> o.remove(u));
        } else if (kind < 4) {
            changed("unway(" + u + ")", y -> y.unway(u), () -> o.unway(u));
        } else if (kind == 4 && pick(6) == 0) {
            changed("clear()", y -> y.clear(), () -> o.clear());
        } else {
            changed("unit()", y -> y.unit(), () -> o.unit());
        }
    }

    /** One question, or one making, of the object of the run. */
    private void ask() {
        int kind = pick(20);
        if (kind < 5) {
            askConstants(kind);
        } else if (kind < 10) {
            askRows(kind);
        } else if (kind < 13 && changes.size() < CHANGES) {
            makeSome(kind);
        } else {
            askOrders(kind);
        }
    }

    private void askConstants(int kind) {
        int u = unit(), n = name();
        if (kind == 0) {
            int s = sort();
            asked("found(" + u + ", " + s + ", " + n + ")", y -> y.found(u, s, n), () -> o.found(u, s, n));
        } else if (kind == 1) {
            asked("value(" + u + ", " + n + ")", y -> y.value(u, n), () -> o.value(u, n));
        } else if (kind == 2) {
            asked("round(" + u + ", " + n + ")", y -> y.round(u, n), () -> o.round(u, n));
        } else if (kind == 3) {
            int i = number(6, 160), what = pick(20) == 0 ? pick(7) - 3 : pick(2);
            asked("chain(" + u + ", " + n + ", " + i + ", " + what + ")", y -> y.chain(u, n, i, what),
                    () -> o.chain(u, n, i, what));
        } else {
            asked("missing(" + u + ")", y -> y.missing(u), () -> o.missing(u));
        }
    }

    private void askRows(int kind) {
        int u = unit(), i = number(40, 680);
        if (kind == 5) {
            asked("size(" + u + ")", y -> y.size(u), () -> o.size(u));
        } else if (kind == 6) {
            asked("row(" + u + ", " + i + ")", y -> y.row(u, i), () -> o.row(u, i));
        } else if (kind == 7) {
            asked("kept(" + u + ", " + i + ")", y -> y.kept(u, i), () -> o.kept(u, i));
        } else if (kind == 8) {
            asked("why(" + u + ")", y -> y.why(u), () -> o.why(u));
        } else {
            asked("needs()", y -> y.needs(), () -> o.needs());
        }
    }

    private void makeSome(int kind) {
        if (kind < 12) {
            int m = pick(8) == 0 ? pick(24) - 4 : pick(17);
            changed("make(" + m + ")", y -> y.make(m), () -> o.make(m));
        } else {
            int u = unit();
            changed("force(" + u + ")", y -> y.force(u), () -> o.force(u));
        }
    }

    private void askOrders(int kind) {
        int u = unit();
        if (kind < 14) {
            asked("output(" + u + ")", y -> y.output(u), () -> o.output(u));
        } else if (kind == 14) {
            asked("anew()", y -> y.anew(), () -> o.anew());
        } else if (kind == 15) {
            asked("coarse()", y -> y.coarse(), () -> o.coarse());
        } else if (kind == 16) {
            int p = number(16, 16);
            asked("order(" + p + ")", y -> y.order(p), () -> o.order(p));
        } else if (kind == 17) {
            asked("ring(" + u + ")", y -> y.ring(u), () -> o.ring(u));
        } else if (kind == 18) {
            int v = unit();
            asked("leads(" + u + ", " + v + ")", y -> y.leads(u, v), () -> o.leads(u, v));
        } else {
            int c = pick(9) - 2;
            asked("count(" + c + ")", y -> y.count(c), () -> o.count(c));
        }
    }

    private void compareAll() {
        for (int u = -1; u <= 16; u++) {
            compareUnit(u);
            for (int n = 0; n < nameSpan; n++) {
                compareName(u, n);
            }
        }
        askedOther("needs()", y -> y.needs(), () -> o.needs());
        askedOther("coarse()", y -> y.coarse(), () -> o.coarse());
        askedOther("anew()", y -> y.anew(), () -> o.anew());
        for (int i = -1; i <= 16; i++) {
            int at = i;
            askedOther("count", y -> y.count(at), () -> o.count(at));
            askedOther("order", y -> y.order(at), () -> o.order(at));
        }
    }

    private void compareUnit(int u) {
        askedOther("size", y -> y.size(u), () -> o.size(u));
        askedOther("why", y -> y.why(u), () -> o.why(u));
        askedOther("missing", y -> y.missing(u), () -> o.missing(u));
        askedOther("output", y -> y.output(u), () -> o.output(u));
        askedOther("ring", y -> y.ring(u), () -> o.ring(u));
        for (int v = -1; v <= 16; v++) {
            int to = v;
            askedOther("leads", y -> y.leads(u, to), () -> o.leads(u, to));
        }
        int size = Math.max(o.size(u), 0);
        for (int i = -1; i <= size; i++) {
            int at = i;
            askedOther("row", y -> y.row(u, at), () -> o.row(u, at));
            askedOther("kept", y -> y.kept(u, at), () -> o.kept(u, at));
        }
    }

    private void compareName(int u, int n) {
        askedOther("value", y -> y.value(u, n), () -> o.value(u, n));
        askedOther("round", y -> y.round(u, n), () -> o.round(u, n));
        for (int s = 0; s < 3; s++) {
            int sort = s;
            askedOther("found", y -> y.found(u, sort, n), () -> o.found(u, sort, n));
        }
        for (int i = -1; i < 16; i++) {
            int at = i;
            askedOther("chain", y -> y.chain(u, n, at, 0), () -> o.chain(u, n, at, 0));
            askedOther("chain", y -> y.chain(u, n, at, 1), () -> o.chain(u, n, at, 1));
        }
    }
}
