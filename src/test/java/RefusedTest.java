import java.util.List;

/** "Refused, and nothing changes: .. the first of these that fits": each refused call, by promises. */
public final class RefusedTest {
    private static final int UNKNOWN = -1, OUTSIDE = -2, STATE = -3, FULL = -4, NONE = -5;
    private static final int SHAPE = 0, CONSTANT = 1, MARK = 2;
    private static final int LOW = Integer.MIN_VALUE, HIGH = Integer.MAX_VALUE;

    /** Units that never came in either scene, or are gone (4). */
    private static final int[] NO_UNITS = {-1, 4, 16, NONE, LOW, HIGH};
    private static final int[] NO_NAMES = {-1, 32, LOW, HIGH};
    private static final int[] NO_SORTS = {-1, 3, LOW, HIGH};

    private static final Answers.Scene ROOMY = RefusedTest::roomy;
    private static final Answers.Scene CROWDED = RefusedTest::crowded;
    private static final List<String> IN_ROOMY = Answers.behind(ROOMY);
    private static final List<String> IN_CROWDED = Answers.behind(CROWDED);

    public static void main(String[] args) {
        scenesHoldWhatTheyShould();
        unit();
        give();
        take();
        build();
        way();
        unway();
        use();
        unuse();
        reader();
        generated();
        remove();
        found();
        valueAndRound();
        chain();
        answersOfOneUnit();
        rows();
        order();
        make();
        count();
        askingChangesNothing();
        Due.finish();
    }

    /** There is room for more of everything; 4 is gone, 5 was never made. */
    private static void roomy(RemakeNeeds2 x) {
        for (int u = 0; u < 8; u++) {
            x.unit();
        }
        x.give(4, SHAPE, 4, 44, false);
        x.give(4, CONSTANT, 4, 45, false);
        x.build(4, 4, 1);
        x.reader(4, true);
        x.generated(5, 4);
        x.way(0, 4);
        x.give(0, SHAPE, 0, 5, false);
        x.give(0, CONSTANT, 1, 7, true);
        x.build(0, 1, 2);
        x.give(0, MARK, 3, 8, true);
        x.way(0, 1);
        x.use(0, SHAPE, 4);
        x.use(0, CONSTANT, 1);
        x.give(1, CONSTANT, 2, 8, false);
        x.give(1, SHAPE, 4, 9, false);
        x.give(1, CONSTANT, 6, 3, false);
        x.build(1, 6, 6);
        x.reader(2, true);
        x.generated(3, 2);
        x.reader(6, true);
        x.way(7, 1);
        x.way(1, 0);
        x.use(1, SHAPE, 0);
        x.make(5);
        x.force(4);
        x.remove(4);
        x.force(0);
        x.give(1, CONSTANT, 2, 10, false);
    }

    /** There is no room left; 4 is gone. */
    private static void crowded(RemakeNeeds2 x) {
        for (int u = 0; u < 16; u++) {
            x.unit();
        }
        for (int n = 0; n < 10; n++) {
            x.give(0, CONSTANT, n, n, n % 4 == 0);
            x.give(4, n % 3, n, n, false);
            x.give(15, n % 3, 31 - n, n, false);
        }
        for (int i = 0; i < 3; i++) {
            x.build(0, 9, 10 + i);
            x.build(0, 0, 9);
            x.build(4, 1, i);
        }
        for (int u = 1; u <= 7; u++) {
            x.way(0, u);
            x.way(4, 16 - u);
        }
        x.way(0, 8);
        for (int n = 0; n < 12; n++) {
            x.use(0, n % 2, n);
            x.use(4, n % 2, n);
        }
        x.give(1, SHAPE, 4, 4, false);
        x.make(9);
        x.remove(4);
        x.way(0, 8);
        x.give(1, SHAPE, 4, 5, false);
    }

    private static void scenesHoldWhatTheyShould() {
        Due.told("the scenes of this test");
        RemakeNeeds2 x = new RemakeNeeds2();
        roomy(x);
        Due.due("roomy: there", x.count(0), 7);
        Due.due("roomy: made", x.count(4), 7);
        Due.due("roomy: needed", x.needs() * 100 + x.why(0) * 10 + x.why(1), 532);
        x = new RemakeNeeds2();
        crowded(x);
        Due.due("crowded: there", x.count(0), 15);
        Due.due("crowded: made", x.count(4), 9);
        Due.due("crowded: full rows", x.size(0), 1 + 50 + 6 + 7 + 49 + 12 + 2);
        Answers.same("the same twice", Answers.behind(ROOMY), IN_ROOMY);
        Answers.same("the same twice", Answers.behind(CROWDED), IN_CROWDED);
    }

    private static void refusedRoomy(String call, long want, Answers.Step step) {
        refused(ROOMY, IN_ROOMY, call, Long.toString(want), step);
    }

    private static void refusedCrowded(String call, long want, Answers.Step step) {
        refused(CROWDED, IN_CROWDED, call, Long.toString(want), step);
    }

    private static void thrownRoomy(String call, Class<?> want, Answers.Step step) {
        refused(ROOMY, IN_ROOMY, call, "throws " + want.getName(), step);
    }

    private static void thrownCrowded(String call, Class<?> want, Answers.Step step) {
        refused(CROWDED, IN_CROWDED, call, "throws " + want.getName(), step);
    }

    private static void refusedBoth(String call, long want, Answers.Step step) {
        refusedRoomy("roomy: " + call, want, step);
        refusedCrowded("crowded: " + call, want, step);
    }

    /** Called twice: the second time it must be refused likewise. */
    private static void refused(Answers.Scene scene, List<String> before, String call, String want,
            Answers.Step step) {
        List<String> behind = Answers.behind(x -> {
            scene.on(x);
            for (int time = 1; time <= 2; time++) {
                String got = Due.answerOf(() -> step.on(x));
                Due.holds(call + ", time " + time + ", is " + want + ", not " + got, got.equals(want));
            }
        });
        Answers.same("behind " + call, behind, before);
    }

    private static void unit() {
        Due.told("Promise 2: FULL: there were 16.");
        refusedCrowded("unit()", FULL, x -> x.unit());
    }

    private static void give() {
        Due.told("Promise 3: UNKNOWN");
        for (int u : NO_UNITS) {
            refusedBoth("give to " + u, UNKNOWN, x -> x.give(u, SHAPE, 9, 1, false));
            refusedBoth("give to " + u + " what is outside", UNKNOWN, x -> x.give(u, 3, 32, 1, false));
        }
        Due.told("Promise 3: OUTSIDE: SORT, NAME");
        for (int sort : NO_SORTS) {
            refusedRoomy("give sort " + sort, OUTSIDE, x -> x.give(0, sort, 9, 1, false));
            refusedCrowded("give sort " + sort + " to a full one", OUTSIDE, x -> x.give(0, sort, 9, 1, false));
        }
        for (int name : NO_NAMES) {
            for (int sort = SHAPE; sort <= MARK; sort++) {
                int asked = sort;
                refusedRoomy("give name " + name, OUTSIDE, x -> x.give(0, asked, name, 1, true));
                refusedCrowded("give name " + name + " to a full one", OUTSIDE, x -> x.give(0, asked, name, 1, true));
            }
        }
        Due.told("Promise 3: FULL");
        refusedCrowded("give one more shape", FULL, x -> x.give(0, SHAPE, 0, 1, false));
        refusedCrowded("give one more constant", FULL, x -> x.give(0, CONSTANT, 10, 1, true));
        refusedCrowded("give one more mark", FULL, x -> x.give(0, MARK, 31, 1, false));
        refusedCrowded("give the last unit one more", FULL, x -> x.give(15, SHAPE, 0, 1, true));
    }

    private static void take() {
        Due.told("Promise 4: UNKNOWN");
        for (int u : NO_UNITS) {
            refusedBoth("take from " + u, UNKNOWN, x -> x.take(u, SHAPE, 4));
            refusedBoth("take from " + u + " what is outside", UNKNOWN, x -> x.take(u, -1, -1));
        }
        Due.told("Promise 4: UNKNOWN: also it did not");
        refusedRoomy("take another name", UNKNOWN, x -> x.take(0, SHAPE, 1));
        refusedRoomy("take another sort", UNKNOWN, x -> x.take(0, MARK, 0));
        refusedRoomy("take what it finds only", UNKNOWN, x -> x.take(0, CONSTANT, 2));
        refusedRoomy("take from one that gives nothing", UNKNOWN, x -> x.take(5, CONSTANT, 0));
        refusedCrowded("take what it does not", UNKNOWN, x -> x.take(0, CONSTANT, 10));
        Due.told("Promise 4: OUTSIDE: SORT, NAME (ahead of that)");
        for (int sort : NO_SORTS) {
            refusedBoth("take sort " + sort, OUTSIDE, x -> x.take(0, sort, 0));
        }
        for (int name : NO_NAMES) {
            refusedBoth("take shape " + name, OUTSIDE, x -> x.take(0, SHAPE, name));
            refusedBoth("take mark " + name, OUTSIDE, x -> x.take(0, MARK, name));
        }
    }

    private static void build() {
        Due.told("Promise 5: UNKNOWN");
        for (int u : NO_UNITS) {
            refusedBoth("build for " + u, UNKNOWN, x -> x.build(u, 4, 1));
            refusedBoth("build for " + u + " what is outside", UNKNOWN, x -> x.build(u, 32, -1));
        }
        Due.told("Promise 5: OUTSIDE: both NAMES");
        for (int name : NO_NAMES) {
            refusedBoth("build " + name, OUTSIDE, x -> x.build(0, name, 0));
            refusedBoth("build of " + name, OUTSIDE, x -> x.build(0, 1, name));
            refusedBoth("build of " + name + " one that is none", OUTSIDE, x -> x.build(0, 20, name));
            refusedCrowded("build of " + name + " a full one", OUTSIDE, x -> x.build(0, 9, name));
        }
        Due.told("Promise 5: STATE: it gives none such");
        refusedRoomy("build one that is none", STATE, x -> x.build(0, 31, 1));
        refusedRoomy("build a shape", STATE, x -> x.build(0, 0, 1));
        refusedRoomy("build a mark", STATE, x -> x.build(0, 3, 1));
        refusedRoomy("build one that it finds only", STATE, x -> x.build(0, 2, 1));
        refusedRoomy("build for one that gives nothing", STATE, x -> x.build(5, 1, 1));
        Due.told("Promise 5: FULL");
        refusedCrowded("build of a fourth", FULL, x -> x.build(0, 9, 0));
        refusedCrowded("build of a fourth, the same", FULL, x -> x.build(0, 0, 9));
    }

    private static void way() {
        Due.told("Promise 6: UNKNOWN: both");
        for (int u : NO_UNITS) {
            refusedBoth("way from " + u, UNKNOWN, x -> x.way(u, 3));
            refusedBoth("way to " + u, UNKNOWN, x -> x.way(3, u));
            refusedCrowded("way of a full one to " + u, UNKNOWN, x -> x.way(0, u));
            refusedBoth("way from " + u + " to itself", UNKNOWN, x -> x.way(u, u));
        }
        Due.told("Promise 6: STATE: they are the same, or it is there");
        refusedRoomy("way to itself", STATE, x -> x.way(0, 0));
        refusedRoomy("way to itself, none yet", STATE, x -> x.way(5, 5));
        refusedRoomy("way to the only one on it", STATE, x -> x.way(0, 1));
        refusedCrowded("full way to itself", STATE, x -> x.way(0, 0));
        for (int u : new int[] {1, 2, 3, 5, 6, 8}) {
            refusedCrowded("full way to " + u + " on it", STATE, x -> x.way(0, u));
        }
        Due.told("Promise 6: FULL");
        refusedCrowded("a seventh on the way", FULL, x -> x.way(0, 15));
        refusedCrowded("one that did not find room", FULL, x -> x.way(0, 7));
    }

    private static void unway() {
        Due.told("Promise 7: UNKNOWN");
        for (int u : NO_UNITS) {
            refusedBoth("unway " + u, UNKNOWN, x -> x.unway(u));
        }
    }

    private static void use() {
        Due.told("Promise 8: UNKNOWN");
        for (int u : NO_UNITS) {
            refusedBoth("use by " + u, UNKNOWN, x -> x.use(u, SHAPE, 1));
            refusedBoth("use by " + u + " what is outside", UNKNOWN, x -> x.use(u, MARK, 32));
        }
        Due.told("Promise 8: OUTSIDE: the SORT (0, 1), the NAME");
        for (int sort : new int[] {-1, MARK, 3, LOW, HIGH}) {
            refusedBoth("use sort " + sort, OUTSIDE, x -> x.use(0, sort, 4));
            refusedBoth("use sort " + sort + ", the first", OUTSIDE, x -> x.use(5, sort, 0));
        }
        for (int name : NO_NAMES) {
            refusedBoth("use shape " + name, OUTSIDE, x -> x.use(0, SHAPE, name));
            refusedBoth("use constant " + name, OUTSIDE, x -> x.use(0, CONSTANT, name));
        }
        Due.told("Promise 8: STATE: it is there");
        refusedRoomy("use that shape again", STATE, x -> x.use(0, SHAPE, 4));
        refusedRoomy("use that constant again", STATE, x -> x.use(0, CONSTANT, 1));
        for (int n = 0; n < 12; n++) {
            int name = n;
            refusedCrowded("use again, full", STATE, x -> x.use(0, name % 2, name));
        }
        Due.told("Promise 8: FULL");
        refusedCrowded("a thirteenth use", FULL, x -> x.use(0, SHAPE, 31));
        refusedCrowded("a thirteenth use, a name that is used for the other sort", FULL, x -> x.use(0, CONSTANT, 0));
    }

    private static void unuse() {
        Due.told("Promise 9: UNKNOWN");
        for (int u : NO_UNITS) {
            refusedBoth("unuse by " + u, UNKNOWN, x -> x.unuse(u, 0));
        }
        Due.told("Promise 9: UNKNOWN (no such thing)");
        for (int i : new int[] {-1, 2, 12, LOW, HIGH}) {
            refusedRoomy("unuse of two: " + i, UNKNOWN, x -> x.unuse(0, i));
        }
        for (int i : new int[] {-1, 12, 13, LOW, HIGH}) {
            refusedCrowded("unuse of twelve: " + i, UNKNOWN, x -> x.unuse(0, i));
        }
        refusedRoomy("unuse of none", UNKNOWN, x -> x.unuse(5, 0));
    }

    private static void reader() {
        Due.told("Promise 10: UNKNOWN");
        for (int u : NO_UNITS) {
            refusedBoth("reader " + u, UNKNOWN, x -> x.reader(u, true));
            refusedBoth("no reader " + u, UNKNOWN, x -> x.reader(u, false));
        }
        Due.told("Promise 10: STATE: it is GENERATED");
        refusedRoomy("a generated one reads", STATE, x -> x.reader(3, true));
        refusedRoomy("a generated one does not", STATE, x -> x.reader(3, false));
    }

    private static void generated() {
        Due.told("Promise 11: UNKNOWN: both");
        for (int u : NO_UNITS) {
            refusedBoth("generated " + u, UNKNOWN, x -> x.generated(u, 2));
            refusedBoth("generated " + u + " by itself", UNKNOWN, x -> x.generated(u, u));
            refusedBoth("generated " + u + " by none", UNKNOWN, x -> x.generated(u, NONE));
            if (u != NONE) {
                refusedBoth("generated by " + u, UNKNOWN, x -> x.generated(5, u));
                refusedBoth("a generated one by " + u, UNKNOWN, x -> x.generated(3, u));
                refusedRoomy("a reader by " + u, UNKNOWN, x -> x.generated(2, u));
            }
        }
        Due.told("Promise 11: STATE: that one is no READER, or the UNIT is one");
        refusedRoomy("by one that is none", STATE, x -> x.generated(5, 1));
        refusedRoomy("a generated one by one that is none", STATE, x -> x.generated(3, 1));
        refusedRoomy("by a generated one", STATE, x -> x.generated(5, 3));
        refusedRoomy("by itself", STATE, x -> x.generated(5, 5));
        refusedRoomy("a generated one by itself", STATE, x -> x.generated(3, 3));
        refusedRoomy("a reader by another", STATE, x -> x.generated(6, 2));
        refusedRoomy("a reader by itself", STATE, x -> x.generated(2, 2));
        refusedRoomy("a reader by one that is none", STATE, x -> x.generated(2, 1));
        refusedRoomy("a reader by none", STATE, x -> x.generated(2, NONE));
    }

    private static void remove() {
        Due.told("Promise 12: UNKNOWN");
        for (int u : NO_UNITS) {
            refusedBoth("remove " + u, UNKNOWN, x -> x.remove(u));
        }
    }

    private static void found() {
        Due.told("Promise 13: UNKNOWN");
        for (int u : NO_UNITS) {
            refusedBoth("found from " + u, UNKNOWN, x -> x.found(u, SHAPE, 4));
            refusedBoth("found from " + u + " what is outside", UNKNOWN, x -> x.found(u, 3, 32));
        }
        Due.told("Promise 13: OUTSIDE: SORT (0 .. 2), NAME");
        for (int sort : NO_SORTS) {
            refusedBoth("found sort " + sort, OUTSIDE, x -> x.found(0, sort, 0));
        }
        for (int name : NO_NAMES) {
            for (int sort = SHAPE; sort <= MARK; sort++) {
                int asked = sort;
                refusedBoth("found name " + name, OUTSIDE, x -> x.found(0, asked, name));
            }
        }
    }

    private static void valueAndRound() {
        Due.told("Promise 14: UNKNOWN: 0.");
        for (int u : NO_UNITS) {
            refusedBoth("value of " + u, 0, x -> x.value(u, 4));
            refusedBoth("value of " + u + ", outside", 0, x -> x.value(u, 32));
        }
        Due.told("Promise 14: 0: it gives none such.");
        for (int name : new int[] {0, 2, 3, 31, -1, 32, -31, LOW, HIGH}) {
            refusedRoomy("value of " + name, 0, x -> x.value(0, name));
        }
        Due.told("Promise 15: UNKNOWN: also it gives none such.");
        for (int u : NO_UNITS) {
            refusedBoth("round of " + u, UNKNOWN, x -> x.round(u, 4));
            refusedBoth("round of " + u + ", outside", UNKNOWN, x -> x.round(u, -1));
        }
        for (int name : new int[] {0, 2, 3, 31, -1, 32, -31, LOW, HIGH}) {
            refusedRoomy("round of " + name, UNKNOWN, x -> x.round(0, name));
        }
    }

    private static void chain() {
        Due.told("Promise 16: UNKNOWN: also the UNIT gives no such CONSTANT");
        for (int u : NO_UNITS) {
            refusedBoth("chain of " + u, UNKNOWN, x -> x.chain(u, 4, 0, 0));
            refusedBoth("chain of " + u + ", outside", UNKNOWN, x -> x.chain(u, 4, -1, 2));
        }
        for (int name : new int[] {0, 2, 3, 31, -1, 32, -31, LOW, HIGH}) {
            refusedRoomy("chain of " + name, UNKNOWN, x -> x.chain(0, name, 0, 0));
            refusedRoomy("chain of " + name + ", outside", UNKNOWN, x -> x.chain(0, name, 0, 2));
        }
        Due.told("Promise 16: OUTSIDE: what.");
        for (int what : new int[] {-1, 2, 3, LOW, HIGH}) {
            refusedRoomy("what " + what, OUTSIDE, x -> x.chain(0, 1, 0, what));
            refusedRoomy("what " + what + " behind the chain", OUTSIDE, x -> x.chain(0, 1, 1, what));
            refusedRoomy("what " + what + " before the chain", OUTSIDE, x -> x.chain(0, 1, -1, what));
        }
        Due.told("Promise 16: NONE: there are not so many.");
        for (int i : new int[] {1, 2, 159, 160, 161, HIGH, -1, LOW}) {
            refusedRoomy("of one, unit " + i, NONE, x -> x.chain(0, 1, i, 0));
            refusedRoomy("of one, name " + i, NONE, x -> x.chain(0, 1, i, 1));
            refusedRoomy("of none, unit " + i, NONE, x -> x.chain(1, 2, i, 0));
        }
        refusedRoomy("of none, 0", NONE, x -> x.chain(1, 2, 0, 1));
    }

    private static void answersOfOneUnit() {
        for (int u : NO_UNITS) {
            Due.told("Promise 17: UNKNOWN");
            refusedBoth("missing " + u, UNKNOWN, x -> x.missing(u));
            Due.told("Promise 18: UNKNOWN");
            refusedBoth("size " + u, UNKNOWN, x -> x.size(u));
            Due.told("Promise 21: UNKNOWN");
            refusedBoth("why " + u, UNKNOWN, x -> x.why(u));
            Due.told("Promise 24: UNKNOWN");
            refusedBoth("force " + u, UNKNOWN, x -> x.force(u));
            Due.told("Promise 25: UNKNOWN: 0.");
            refusedBoth("output " + u, 0, x -> x.output(u));
            Due.told("Promise 29: UNKNOWN");
            refusedBoth("ring " + u, UNKNOWN, x -> x.ring(u));
            Due.told("Promise 30: UNKNOWN: both");
            refusedBoth("leads from " + u, UNKNOWN, x -> x.leads(u, 0));
            refusedBoth("leads to " + u, UNKNOWN, x -> x.leads(0, u));
            refusedBoth("leads to itself " + u, UNKNOWN, x -> x.leads(u, u));
        }
        Due.told("Promise 25: 0: it was never MADE.");
        refusedRoomy("output of 7", 0, x -> x.output(7));
    }

    private static void rows() {
        for (int u : NO_UNITS) {
            for (int i : new int[] {0, -1, 1000, LOW, HIGH}) {
                Due.told("Promise 19: 0: UNKNOWN.");
                refusedBoth("row of " + u, 0, x -> x.row(u, i));
                Due.told("Promise 20: 0: UNKNOWN.");
                refusedBoth("kept of " + u, 0, x -> x.kept(u, i));
            }
        }
        for (int i : new int[] {-1, 127, 128, 679, 680, 681, LOW, HIGH}) {
            Due.told("Promise 19: ArrayIndexOutOfBoundsException: there is none such.");
            thrownCrowded("row of 127 longs at " + i, Checks.NO_PLACE, x -> x.row(0, i));
            Due.told("Promise 20: ArrayIndexOutOfBoundsException: there is none such.");
            thrownCrowded("kept of 127 longs at " + i, Checks.NO_PLACE, x -> x.kept(0, i));
        }
        for (int i : new int[] {-1, 6, 7, 680, LOW, HIGH}) {
            Due.told("Promise 19: ArrayIndexOutOfBoundsException: there is none such.");
            thrownRoomy("row of 6 longs at " + i, Checks.NO_PLACE, x -> x.row(3, i));
            Due.told("Promise 20: ArrayIndexOutOfBoundsException: there is none such.");
            thrownRoomy("kept of 6 longs at " + i, Checks.NO_PLACE, x -> x.kept(3, i));
            Due.told("Promise 20: NullPointerException: it was never MADE");
            thrownRoomy("kept of none at " + i, Checks.NEVER_MADE, x -> x.kept(7, i));
        }
        thrownRoomy("kept of none at 0", Checks.NEVER_MADE, x -> x.kept(7, 0));
    }

    private static void order() {
        Due.told("Promise 28: ArrayIndexOutOfBoundsException: there is none such.");
        for (int i : new int[] {-1, 15, 16, LOW, HIGH}) {
            thrownCrowded("order of 15 at " + i, Checks.NO_PLACE, x -> x.order(i));
        }
        for (int i : new int[] {-1, 7, 8, 15, 16, LOW, HIGH}) {
            thrownRoomy("order of 7 at " + i, Checks.NO_PLACE, x -> x.order(i));
        }
    }

    private static void make() {
        Due.told("Promise 23: The first n NEEDED UNITS (0 .. 16) .. OUTSIDE.");
        for (int n : new int[] {-1, 17, LOW, HIGH}) {
            refusedBoth("make " + n, OUTSIDE, x -> x.make(n));
        }
        refusedBoth("make 0", 0, x -> x.make(0));
    }

    private static void count() {
        Due.told("Promise 31: OUTSIDE.");
        for (int what : new int[] {-1, 5, LOW, HIGH}) {
            refusedBoth("count " + what, OUTSIDE, x -> x.count(what));
        }
    }

    /** What only asks changes nothing either. */
    private static void askingChangesNothing() {
        Due.told("Nothing is promised beyond the answers and state changes described");
        Answers.Scene asking = x -> {
            x.found(0, SHAPE, 4);
            x.value(0, 1);
            x.round(1, 6);
            x.chain(0, 1, 0, 1);
            x.missing(0);
            x.size(3);
            x.row(3, 0);
            x.kept(0, 0);
            x.why(0);
            x.needs();
            x.output(0);
            x.anew();
            x.coarse();
            x.order(0);
            x.ring(1);
            x.leads(0, 1);
            for (int what = 0; what < 5; what++) {
                x.count(what);
            }
        };
        Answers.same("asked", Answers.behind(x -> {
            ROOMY.on(x);
            asking.on(x);
        }), IN_ROOMY);
    }
}
