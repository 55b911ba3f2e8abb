/** The boundary cases that the promises name, a test for each sentence; what is refused stands in RefusedTest. */
public final class CallsEdgesTest {
    private static final int UNKNOWN = -1, FULL = -4, NONE = -5;
    private static final int SHAPE = 0, CONSTANT = 1, MARK = 2;
    private static final long LEAST = Long.MIN_VALUE, MOST = Long.MAX_VALUE;

    public static void main(String[] args) {
        newObject();
        unitNumbers();
        giveInPlace();
        giveBuiltStays();
        takeTakesWhatItIsBuiltOf();
        takeTheLast();
        buildOfOneThatItHas();
        wayHowMany();
        unwayHowMany();
        useHowMany();
        unuseFirstAndLast();
        readerWhatItWas();
        readerNoMore();
        generatedByNone();
        generatedByAnother();
        removeTheLast();
        removeFromAllWays();
        removeWhatItGenerates();
        foundByAllSorts();
        valueOfEdges();
        namesBesideConstants();
        roundOrLeadsToOne();
        chainFirstAndLast();
        missingFromNoneToAll();
        sizeLeast();
        rowFirstAndLast();
        rowAsItIsNow();
        keptFirstAndLast();
        whyNot();
        needsFromNoneToAll();
        needsNow();
        makeNone();
        makeOneByOne();
        makeMoreThanNeeded();
        makeAll();
        forceHowOften();
        outputNeverMade();
        outputOfGone();
        anewOfNone();
        anewMadeOrNot();
        coarseFromNoneToAll();
        coarseByWhy();
        coarseByLeading();
        orderFirstAndLast();
        ringFirstAndLast();
        leadsToItself();
        countOfUnits();
        countOfRings();
        countOfMade();
        clearNone();
        clearAll();
        wholeLifeOfForcing();
        wholeLifeOfClearing();
        wholeLifeOfThrowing();
        wholeLifeOfComingAndGoing();
        Due.finish();
    }

    private static void due(String what, long got, long want) {
        Due.due(what, got, want);
    }

    private static RemakeNeeds2 with(int units) {
        return Checks.with(units);
    }

    private static void newObject() {
        Due.told("Promise 1: No UNITS.");
        RemakeNeeds2 x = new RemakeNeeds2();
        for (int u = 0; u < 16; u++) {
            due("size", x.size(u), UNKNOWN);
            due("why", x.why(u), UNKNOWN);
            due("ring", x.ring(u), UNKNOWN);
            due("leads", x.leads(u, u), UNKNOWN);
            due("row", x.row(u, 0), 0);
            due("kept", x.kept(u, 0), 0);
            due("output", x.output(u), 0);
            due("force", x.force(u), UNKNOWN);
            due("remove", x.remove(u), UNKNOWN);
        }
        for (int what = 0; what < 5; what++) {
            due("count", x.count(what), 0);
        }
        due("needs", x.needs(), 0);
        due("make", x.make(16), 0);
        due("coarse", x.coarse(), 0);
        due("anew", x.anew(), 17);
        Checks.orderIs("order", x);
        due("clear", x.clear(), 0);
        due("the first unit", x.unit(), 0);
    }

    private static void unitNumbers() {
        Due.told("Promise 2: A UNIT: its number.");
        RemakeNeeds2 x = new RemakeNeeds2();
        for (int u = 0; u < 16; u++) {
            due("number", x.unit(), u);
            due("there", x.count(0), u + 1);
            due("its row", x.size(u), 5);
        }
        due("no more", x.unit(), FULL);
        x.remove(15);
        due("not even the last again", x.unit(), FULL);
        x.clear();
        due("behind a clear", x.unit(), 0);
    }

    private static void giveInPlace() {
        Due.told("Promise 3: A UNIT gives something (in place of what it was): 1 if it is new, else 0.");
        RemakeNeeds2 x = with(1);
        for (int sort = 0; sort < 3; sort++) {
            due("new", x.give(0, sort, 0, 1, false), 1);
            due("the same", x.give(0, sort, 0, 1, false), 0);
            due("another digest", x.give(0, sort, 0, MOST, true), 0);
            due("taken", x.take(0, sort, 0), 1);
            due("new again", x.give(0, sort, 0, LEAST, false), 1);
        }
        Checks.rowIs("the last of each", x, 0, 3, 0, 0, LEAST, 0, 0, 1, 0, LEAST, 0, 0, 2, 0, LEAST, 0, 0, 0, 0, 0, 0);
    }

    private static void giveBuiltStays() {
        Due.told("Promise 3: what a CONSTANT is BUILT of stays");
        RemakeNeeds2 x = with(1);
        x.give(0, CONSTANT, 0, 1, false);
        x.build(0, 0, 31);
        x.build(0, 0, 0);
        x.build(0, 0, 31);
        due("round", x.round(0, 0), 1);
        due("in place", x.give(0, CONSTANT, 0, 2, true), 0);
        Checks.rowIs("stays", x, 0, 1, 1, 0, 2, 1, 3, 31, 0, 31, 0, 0, NONE, 0, 0, 0, NONE, 0, 0, 0);
        due("a shape of that name", x.give(0, SHAPE, 0, 2, true), 1);
        due("still full", x.build(0, 0, 1), FULL);
    }

    private static void takeTakesWhatItIsBuiltOf() {
        Due.told("Promise 4: (with it goes what a CONSTANT is BUILT of): 1.");
        RemakeNeeds2 x = with(1);
        for (int n = 0; n < 3; n++) {
            x.give(0, CONSTANT, n, n, false);
            for (int i = 0; i < 3; i++) {
                x.build(0, n, 10 * n + i);
            }
        }
        due("missing", x.missing(0), 6);
        due("the middle one", x.take(0, CONSTANT, 1), 1);
        due("missing three fewer, one more", x.missing(0), 4);
        due("again", x.give(0, CONSTANT, 1, 1, false), 1);
        due("built of none", x.missing(0), 3);
        due("the others are built as before", x.build(0, 0, 0) + x.build(0, 2, 0), 2 * FULL);
        due("room for one", x.build(0, 1, 5), 1);
        due("a shape of the same name is not it", x.take(0, SHAPE, 1), UNKNOWN);
    }

    private static void takeTheLast() {
        Due.told("Promise 4: A UNIT does not give something any more");
        RemakeNeeds2 x = with(1);
        for (int n = 0; n < 10; n++) {
            x.give(0, n % 3, 31 - n, n, false);
        }
        for (int n = 9; n >= 0; n--) {
            due("given", x.found(0, n % 3, 31 - n), 0);
            due("taken", x.take(0, n % 3, 31 - n), 1);
            due("not given", x.found(0, n % 3, 31 - n), NONE);
            due("left", x.row(0, 0), n);
        }
        Checks.rowIs("empty", x, 0, 0, 0, 0, 0, 0);
    }

    private static void buildOfOneThatItHas() {
        Due.told("Promise 5: A CONSTANT of a UNIT is BUILT of one NAME more (also one that it has): of how many.");
        RemakeNeeds2 x = with(2);
        x.give(0, CONSTANT, 7, 1, false);
        due("of itself", x.build(0, 7, 7), 1);
        due("of itself again", x.build(0, 7, 7), 2);
        due("and again", x.build(0, 7, 7), 3);
        due("no more", x.build(0, 7, 7), FULL);
        x.give(1, CONSTANT, 7, 1, false);
        due("in another unit", x.build(1, 7, 0), 1);
    }

    private static void wayHowMany() {
        Due.told("Promise 6: A UNIT more on the WAY: how many.");
        RemakeNeeds2 x = with(8);
        for (int u = 1; u <= 6; u++) {
            due("one more", x.way(0, u), u);
            due("and back", x.way(u, 0), 1);
        }
        due("full", x.way(0, 7), FULL);
        x.unway(0);
        due("again", x.way(0, 7), 1);
    }

    private static void unwayHowMany() {
        Due.told("Promise 7: The WAY is empty: how many there were.");
        RemakeNeeds2 x = with(7);
        due("none", x.unway(0), 0);
        x.way(0, 1);
        due("one", x.unway(0), 1);
        for (int u = 1; u <= 6; u++) {
            x.way(0, u);
            x.way(u, 0);
        }
        due("six", x.unway(0), 6);
        due("none again", x.unway(0), 0);
        due("the way back stays", x.unway(6), 1);
        Checks.rowIs("empty", x, 0, 0, 0, 0, 0, 0);
    }

    private static void useHowMany() {
        Due.told("Promise 8: A USE more: how many.");
        RemakeNeeds2 x = with(1);
        for (int n = 0; n < 6; n++) {
            due("a shape", x.use(0, SHAPE, n), 2 * n + 1);
            due("a constant", x.use(0, CONSTANT, n), 2 * n + 2);
        }
        due("full", x.use(0, SHAPE, 6), FULL);
    }

    private static void unuseFirstAndLast() {
        Due.told("Promise 9: USE i goes; those behind come one down: how many are left.");
        RemakeNeeds2 x = with(1);
        for (int n = 0; n < 12; n++) {
            x.use(0, SHAPE, n);
        }
        due("the last", x.unuse(0, 11), 11);
        due("there is no twelfth", x.unuse(0, 11), UNKNOWN);
        due("the first", x.unuse(0, 0), 10);
        due("the second", x.unuse(0, 1), 9);
        for (int i = 0; i < 9; i++) {
            due("use " + i, x.row(0, 3 + 4 * i + 1), i == 0 ? 1 : i + 2);
        }
        for (int left = 8; left >= 0; left--) {
            due("one by one", x.unuse(0, left / 2), left);
        }
        due("none", x.unuse(0, 0), UNKNOWN);
        due("the first again", x.use(0, SHAPE, 0), 1);
        due("the only one", x.unuse(0, 0), 0);
    }

    private static void readerWhatItWas() {
        Due.told("Promise 10: what it was (1, 0).");
        RemakeNeeds2 x = with(1);
        due("off, was none", x.reader(0, false), 0);
        due("on, was none", x.reader(0, true), 0);
        due("on, was one", x.reader(0, true), 1);
        due("off, was one", x.reader(0, false), 1);
        due("off, was none again", x.reader(0, false), 0);
    }

    private static void readerNoMore() {
        Due.told("Promise 10: (those that it generates are GENERATED no more)");
        RemakeNeeds2 x = with(16);
        x.reader(0, true);
        x.reader(1, true);
        for (int u = 2; u < 15; u++) {
            x.generated(u, 0);
        }
        x.generated(15, 1);
        due("on again", x.reader(0, true), 1);
        due("they stay", x.leads(2, 0) + x.leads(14, 0), 2);
        due("off", x.reader(0, false), 1);
        for (int u = 2; u < 15; u++) {
            Checks.rowIs("generated no more", x, u, 0, 0, 0, 0, 0);
            due("may be a reader", x.reader(u, true), 0);
        }
        due("that of another stays", x.leads(15, 1), 1);
        due("on", x.reader(0, true), 0);
        due("they do not come back", x.leads(2, 0), 0);
    }

    private static void generatedByNone() {
        Due.told("Promise 11: (by = NONE: by none): 1.");
        RemakeNeeds2 x = with(2);
        due("it was not", x.generated(0, NONE), 1);
        x.reader(1, true);
        due("by one", x.generated(0, 1), 1);
        due("by the same", x.generated(0, 1), 1);
        due("by none", x.generated(0, NONE), 1);
        Checks.rowIs("is not", x, 0, 0, 0, 0, 0, 0);
        due("by none again", x.generated(0, NONE), 1);
    }

    private static void generatedByAnother() {
        Due.told("Promise 11: A UNIT is GENERATED by another one: 1.");
        RemakeNeeds2 x = with(16);
        x.reader(0, true);
        x.reader(15, true);
        for (int u = 1; u < 15; u++) {
            due("by the first", x.generated(u, 0), 1);
        }
        due("by the last", x.generated(7, 15), 1);
        due("leads there", x.leads(7, 15) * 10 + x.leads(7, 0), 10);
        due("the others", x.leads(6, 15) * 10 + x.leads(6, 0), 1);
    }

    private static void removeTheLast() {
        Due.told("Promise 12: A UNIT goes: how many are there.");
        RemakeNeeds2 x = with(16);
        for (int u = 15; u > 0; u--) {
            due("gone", x.remove(u), u);
        }
        due("the last of all", x.remove(0), 0);
        due("none is there", x.count(0), 0);
        due("sixteen ever", x.count(1), 16);
        due("no more", x.unit(), FULL);
    }

    private static void removeFromAllWays() {
        Due.told("Promise 12: from all WAYS, too");
        RemakeNeeds2 x = with(8);
        for (int u = 1; u <= 6; u++) {
            x.way(0, u);
            x.way(7, 7 - u);
        }
        x.remove(6);
        Checks.rowIs("the last of one", x, 0, 0, 5, 1, 2, 3, 4, 5, 0, 0, 0);
        Checks.rowIs("the first of another", x, 7, 0, 5, 5, 4, 3, 2, 1, 0, 0, 0);
        due("room for one", x.way(0, 7), 6);
        x.remove(3);
        Checks.rowIs("the middle of one", x, 0, 0, 5, 1, 2, 4, 5, 7, 0, 0, 0);
        for (int u : new int[] {1, 2, 4, 5, 7}) {
            x.remove(u);
        }
        due("none on it", x.unway(0), 0);
    }

    private static void removeWhatItGenerates() {
        Due.told("Promise 12: what it generates is GENERATED no more");
        RemakeNeeds2 x = with(5);
        x.reader(4, true);
        x.reader(3, true);
        x.generated(0, 4);
        x.generated(1, 4);
        x.generated(2, 3);
        due("gone", x.remove(4), 4);
        Checks.rowIs("no more", x, 0, 0, 0, 0, 0, 0);
        due("may be readers", x.reader(0, true) + x.reader(1, true), 0);
        due("that of another stays", x.leads(2, 3), 1);
        due("a generated one goes", x.remove(2), 3);
        due("its reader stays one", x.reader(3, true), 1);
    }

    private static void foundByAllSorts() {
        Due.told("Promise 13: The UNIT that is FOUND; NONE.");
        RemakeNeeds2 x = with(16);
        x.way(0, 15);
        for (int sort = 0; sort < 3; sort++) {
            due("none", x.found(0, sort, 31), NONE);
            x.give(15, sort, 31, 0, false);
            due("the last unit", x.found(0, sort, 31), 15);
            x.give(0, sort, 31, 0, true);
            due("the first unit", x.found(0, sort, 31), 0);
        }
    }

    private static void valueOfEdges() {
        Due.told("Promise 14: The VALUE of a CONSTANT that a UNIT gives; 0: it gives none such.");
        RemakeNeeds2 x = with(2);
        x.way(0, 1);
        x.give(1, CONSTANT, 5, 9, false);
        due("found, not given", x.value(0, 5), 0);
        x.give(0, SHAPE, 5, 9, false);
        x.give(0, MARK, 5, 9, false);
        due("a shape and a mark", x.value(0, 5), 0);
        for (long digest : new long[] {LEAST, -1, 0, 1, MOST}) {
            x.give(0, CONSTANT, 5, digest, true);
            due("given", x.value(0, 5), digest);
        }
        x.take(0, CONSTANT, 5);
        due("taken", x.value(0, 5), 0);
    }

    private static void namesBesideConstants() {
        Due.told("Promises 14 to 16: it gives none such: names beyond the edges, things of other sorts there");
        RemakeNeeds2 x = with(1);
        x.give(0, SHAPE, 31, 5, false);
        x.give(0, MARK, 0, 6, false);
        for (int name : new int[] {-1, 32, 0, 31}) {
            due("value " + name, x.value(0, name), 0);
            due("round " + name, x.round(0, name), UNKNOWN);
            due("chain " + name, x.chain(0, name, 0, 0), UNKNOWN);
        }
        x.give(0, CONSTANT, 0, 7, false);
        x.give(0, CONSTANT, 31, 8, false);
        for (int name : new int[] {-1, 32}) {
            due("value " + name + " beside constants", x.value(0, name), 0);
            due("round " + name + " beside constants", x.round(0, name), UNKNOWN);
            due("chain " + name + " beside constants", x.chain(0, name, 0, 0), UNKNOWN);
        }
        due("value 0", x.value(0, 0), 7);
        due("value 31", x.value(0, 31), 8);
        due("round 31", x.round(0, 31), 0);
        due("chain 31", x.chain(0, 31, 0, 0), NONE);
    }

    private static void roundOrLeadsToOne() {
        Due.told("Promise 15: Whether a CONSTANT that a UNIT gives is ROUND, or leads to one that is (1, 0).");
        RemakeNeeds2 x = with(2);
        x.way(0, 1);
        x.give(0, CONSTANT, 0, 0, false);
        due("built of none", x.round(0, 0), 0);
        x.build(0, 0, 1);
        due("built of nothing found", x.round(0, 0), 0);
        x.give(1, CONSTANT, 1, 0, false);
        due("built of one", x.round(0, 0), 0);
        x.build(1, 1, 1);
        due("is", x.round(1, 1), 1);
        due("leads to one", x.round(0, 0), 1);
        x.give(1, CONSTANT, 1, 0, true);
        due("does not find it", x.round(0, 0), 0);
    }

    private static void chainFirstAndLast() {
        Due.told("Promise 16: Of CONSTANT i of THE CHAIN: 0 its UNIT, 1 its NAME");
        RemakeNeeds2 x = with(16);
        x.way(0, 15);
        x.give(0, CONSTANT, 0, 0, false);
        x.give(15, CONSTANT, 31, 0, false);
        due("there is no first", x.chain(0, 0, 0, 0), NONE);
        x.build(0, 0, 31);
        due("the first's unit", x.chain(0, 0, 0, 0), 15);
        due("the first's name", x.chain(0, 0, 0, 1), 31);
        due("there is no second", x.chain(0, 0, 1, 0), NONE);
        x.build(0, 0, 0);
        due("the second's unit", x.chain(0, 0, 1, 0), 0);
        due("the second's name", x.chain(0, 0, 1, 1), 0);
        due("there is no third", x.chain(0, 0, 2, 1), NONE);
    }

    private static void missingFromNoneToAll() {
        Due.told("Promise 17: How many USES, and NAMES of which CONSTANTS are BUILT, of a UNIT find NONE.");
        RemakeNeeds2 x = with(2);
        due("none", x.missing(0), 0);
        for (int n = 0; n < 12; n++) {
            x.use(0, n % 2, n);
        }
        due("twelve uses", x.missing(0), 12);
        for (int n = 0; n < 10; n++) {
            x.give(0, CONSTANT, 20 + n, 0, false);
            for (int i = 0; i < 3; i++) {
                x.build(0, 20 + n, 11);
            }
        }
        due("and thirty names", x.missing(0), 42);
        x.way(0, 1);
        x.give(1, SHAPE, 11, 0, false);
        due("a shape of that name", x.missing(0), 42);
        x.give(1, CONSTANT, 11, 0, true);
        due("a private one", x.missing(0), 42);
        x.give(1, CONSTANT, 11, 0, false);
        due("all names and a use", x.missing(0), 11);
        x.give(1, SHAPE, 0, 0, false);
        due("one use more", x.missing(0), 10);
    }

    private static void sizeLeast() {
        Due.told("Promise 18: How many longs THE ROW of a UNIT has now.");
        RemakeNeeds2 x = with(2);
        due("the least", x.size(0), 5);
        x.give(0, CONSTANT, 0, 0, false);
        due("a thing", x.size(0), 10);
        x.build(0, 0, 0);
        due("a name", x.size(0), 13);
        x.way(0, 1);
        due("a way", x.size(0), 14);
        x.use(0, SHAPE, 0);
        due("a use", x.size(0), 18);
        x.reader(0, true);
        due("a reader", x.size(0), 18);
        x.give(1, MARK, 0, 0, false);
        due("a mark", x.size(0), 21);
        x.reader(1, true);
        x.reader(0, false);
        due("no reader", x.size(0), 18);
        x.generated(0, 1);
        due("generated", x.size(0), 19);
    }

    private static void rowFirstAndLast() {
        Due.told("Promise 19: Long i of THE ROW of a UNIT, as it is now.");
        RemakeNeeds2 x = with(2);
        x.reader(1, true);
        x.generated(0, 1);
        x.give(0, SHAPE, 0, LEAST, false);
        due("the first", x.row(0, 0), 1);
        due("the last", x.row(0, 10), Checks.digestOf(0, 0, 0, 1, 0));
        Due.throwsIt("behind the last", Checks.NO_PLACE, () -> x.row(0, 11));
        Due.throwsIt("before the first", Checks.NO_PLACE, () -> x.row(0, -1));
        x.take(0, SHAPE, 0);
        due("the first now", x.row(0, 0), 0);
        due("the last now", x.row(0, 5), Checks.digestOf(0, 0, 0, 1, 0));
        Due.throwsIt("behind the last now", Checks.NO_PLACE, () -> x.row(0, 6));
    }

    /** Each asks at once behind a change, without another call between. */
    private static void rowAsItIsNow() {
        Due.told("Promise 19: THE ROW of a UNIT, as it is now");
        RemakeNeeds2 x = with(1);
        x.use(0, CONSTANT, 0);
        for (long digest : new long[] {LEAST, 0, MOST}) {
            x.give(0, CONSTANT, 0, digest, false);
            due("the value", x.row(0, 11), digest);
        }
        x.build(0, 0, 0);
        due("the value of a round one", x.row(0, 14), 0);
    }

    private static void keptFirstAndLast() {
        Due.told("Promise 20: Long i of the ROW that a UNIT keeps.");
        RemakeNeeds2 x = with(2);
        x.give(0, SHAPE, 0, LEAST, true);
        Due.throwsIt("never made", Checks.NEVER_MADE, () -> x.kept(0, 0));
        Due.throwsIt("never made, behind", Checks.NEVER_MADE, () -> x.kept(0, 10));
        x.force(0);
        due("the first", x.kept(0, 0), 1);
        due("the digest", x.kept(0, 3), LEAST);
        due("the last", x.kept(0, 9), 0);
        Due.throwsIt("behind the last", Checks.NO_PLACE, () -> x.kept(0, 10));
        Due.throwsIt("before the first", Checks.NO_PLACE, () -> x.kept(0, -1));
        x.use(0, SHAPE, 0);
        Due.throwsIt("as long as it was", Checks.NO_PLACE, () -> x.kept(0, 10));
        due("the row is longer", x.row(0, 10), 0);
        x.remove(0);
        due("gone", x.kept(0, 0), 0);
        due("gone, behind", x.kept(0, 10), 0);
        x.clear();
        x.unit();
        Due.throwsIt("never made behind a clear", Checks.NEVER_MADE, () -> x.kept(0, 0));
    }

    private static void whyNot() {
        Due.told("Promise 21: 0: it is not.");
        RemakeNeeds2 x = with(2);
        x.force(0);
        due("made", x.why(0), 0);
        due("the other is not", x.why(1), 1);
        x.give(1, SHAPE, 0, 0, false);
        x.way(1, 0);
        due("what does not touch it", x.why(0), 0);
        x.force(1);
        due("made", x.why(1), 0);
    }

    private static void needsFromNoneToAll() {
        Due.told("Promise 22: How many UNITS are NEEDED.");
        RemakeNeeds2 x = with(16);
        due("all", x.needs(), 16);
        for (int u = 0; u < 16; u++) {
            x.force(u);
            due("fewer", x.needs(), 15 - u);
        }
        x.reader(0, true);
        for (int u = 1; u < 16; u++) {
            x.generated(u, 0);
        }
        due("all again", x.needs(), 16);
        due("made", x.make(16), 16);
        x.give(15, MARK, 0, 0, false);
        due("one mark, all", x.needs(), 16);
        x.take(15, MARK, 0);
        due("none", x.needs(), 0);
        x.give(15, SHAPE, 0, 0, false);
        due("one", x.needs(), 1);
        x.remove(15);
        due("none is left", x.needs(), 0);
    }

    private static void needsNow() {
        Due.told("Promise 22: How many UNITS are NEEDED: now");
        RemakeNeeds2 x = with(2);
        x.give(1, CONSTANT, 0, 1, false);
        x.way(0, 1);
        x.use(0, CONSTANT, 0);
        x.make(16);
        x.give(1, CONSTANT, 0, 2, false);
        due("by a value", x.needs(), 2);
        x.give(1, CONSTANT, 0, 1, false);
        due("as it was", x.needs(), 0);
        x.build(1, 0, 0);
        due("by a round one", x.needs(), 2);
    }

    private static void makeNone() {
        Due.told("Promise 23: The first n NEEDED UNITS (0 .. 16): n = 0");
        RemakeNeeds2 x = with(2);
        due("none of two", x.make(0), 0);
        due("still two", x.needs(), 2);
        due("never made", x.count(4), 0);
        x.make(16);
        due("none of none", x.make(0), 0);
        due("sixteen of none", x.make(16), 0);
    }

    private static void makeOneByOne() {
        Due.told("Promise 23: The first n NEEDED UNITS in THE ORDER are made: how many.");
        RemakeNeeds2 x = with(4);
        x.give(3, SHAPE, 0, 0, false);
        x.way(0, 3);
        x.use(0, SHAPE, 0);
        int[] order = {1, 2, 3, 0};
        for (int i = 0; i < 4; i++) {
            due("one", x.make(1), 1);
            for (int j = 0; j < 4; j++) {
                due("made by the order", x.why(order[j]), j <= i ? 0 : 1);
            }
        }
        due("no more", x.make(1), 0);
        x.give(0, MARK, 0, 0, false);
        x.give(2, MARK, 0, 0, false);
        due("needed ones alone are counted", x.make(1), 1);
        due("the first of them", x.why(2) * 10 + x.why(0), 2);
    }

    private static void makeMoreThanNeeded() {
        Due.told("Promise 23: how many: fewer than n");
        RemakeNeeds2 x = with(3);
        x.force(1);
        due("two of three", x.make(3), 2);
        x.give(2, SHAPE, 0, 0, false);
        due("one of sixteen", x.make(16), 1);
        due("each once", x.force(0) * 100 + x.force(1) * 10 + x.force(2), 223);
    }

    private static void makeAll() {
        Due.told("Promise 23: n = 16");
        RemakeNeeds2 x = with(16);
        due("fifteen", x.make(15), 15);
        due("all but the last", x.needs() * 10 + x.why(15), 11);
        x.clear();
        for (int u = 0; u < 16; u++) {
            x.unit();
        }
        due("sixteen", x.make(16), 16);
        due("none", x.needs(), 0);
        due("in all", x.count(4), 16);
    }

    private static void forceHowOften() {
        Due.told("Promise 24: A UNIT is made, NEEDED or not: how often it was.");
        RemakeNeeds2 x = with(2);
        for (int time = 1; time <= 9; time++) {
            due("not needed", x.force(0), time);
        }
        due("the other", x.force(1), 1);
        x.give(0, SHAPE, 0, 0, false);
        due("needed", x.force(0), 10);
        due("not needed now", x.why(0), 0);
        x.give(0, SHAPE, 0, 1, false);
        due("by make, too", x.make(16), 1);
        due("counted", x.force(0), 12);
        x.clear();
        x.unit();
        due("from one on behind a clear", x.force(0), 1);
    }

    private static void outputNeverMade() {
        Due.told("Promise 25: OUTPUT of a UNIT; 0: it was never MADE.");
        RemakeNeeds2 x = with(2);
        due("never", x.output(0), 0);
        x.anew();
        x.needs();
        due("asking makes nothing", x.output(0), 0);
        x.force(0);
        due("made", x.output(0), -3786691770504508668L);
        due("the other never", x.output(1), 0);
    }

    private static void outputOfGone() {
        Due.told("Promise 25: UNKNOWN: 0.");
        RemakeNeeds2 x = with(1);
        x.force(0);
        due("made", x.output(0), -3786691770504508668L);
        x.remove(0);
        due("gone", x.output(0), 0);
        due("never came", x.output(1), 0);
    }

    private static void anewOfNone() {
        Due.told("Promise 26: DIGEST OF all OUTPUTS: of none, of one");
        RemakeNeeds2 x = new RemakeNeeds2();
        due("none", x.anew(), 17);
        x.unit();
        due("one", x.anew(), Checks.digestOf(Checks.digestOf(0, 0, 0, 0, 0)));
        x.clear();
        due("none behind a clear", x.anew(), 17);
    }

    private static void anewMadeOrNot() {
        Due.told("Promise 26: as making all anew would give them, by THE ORDER.");
        RemakeNeeds2 x = with(3);
        x.give(2, CONSTANT, 0, MOST, false);
        x.way(0, 2);
        x.use(0, CONSTANT, 0);
        long one = Checks.digestOf(0, 0, 0, 0, 0);
        long two = Checks.digestOf(1, 1, 0, MOST, 0, 0, 0, 0, 0, 0);
        long zero = Checks.digestOf(0, 1, 2, 1, 1, 0, 2, MOST, 0, 0);
        long all = Checks.digestOf(one, two, zero);
        due("none is made", x.anew(), all);
        x.make(2);
        due("two are made", x.anew(), all);
        x.make(1);
        due("all are made", x.anew(), all);
        due("the outputs are those", Checks.digestOf(x.output(1), x.output(2), x.output(0)), all);
        x.give(2, CONSTANT, 0, LEAST, false);
        two = Checks.digestOf(1, 1, 0, LEAST, 0, 0, 0, 0, 0, 0);
        zero = Checks.digestOf(0, 1, 2, 1, 1, 0, 2, LEAST, 0, 0);
        due("as they are now", x.anew(), Checks.digestOf(one, two, zero));
    }

    private static void coarseFromNoneToAll() {
        Due.told("Promise 27: How many UNITS would be made by a coarse way");
        RemakeNeeds2 x = new RemakeNeeds2();
        due("none", x.coarse(), 0);
        for (int u = 0; u < 16; u++) {
            x.unit();
            due("each", x.coarse(), u + 1);
        }
        x.make(15);
        due("the last", x.coarse(), 1);
        x.make(1);
        due("none", x.coarse(), 0);
    }

    private static void coarseByWhy() {
        Due.told("Promise 27: those that are NEEDED by WHY 1, 2");
        RemakeNeeds2 x = with(3);
        x.use(0, SHAPE, 0);
        x.way(0, 1);
        x.make(16);
        x.give(1, SHAPE, 0, 0, false);
        x.force(1);
        due("by 3 alone", x.why(0) * 100 + x.needs() * 10 + x.coarse(), 310);
        x.force(0);
        x.reader(2, true);
        due("by 4 alone", x.why(2) * 100 + x.needs() * 10 + x.coarse(), 410);
        x.force(2);
        x.generated(0, 2);
        due("by 5 alone", x.why(0) * 100 + x.needs() * 10 + x.coarse(), 510);
        x.force(0);
        due("none", x.needs() + x.coarse(), 0);
        x.unway(1);
        x.use(1, CONSTANT, 0);
        due("by 2, and what leads there", x.why(1) * 100 + x.needs() * 10 + x.coarse(), 212);
    }

    private static void coarseByLeading() {
        Due.told("Promise 27: and all that LEAD to one of these.");
        RemakeNeeds2 x = with(16);
        for (int u = 1; u < 16; u++) {
            x.give(u, SHAPE, u, 0, false);
            x.way(u - 1, u);
            x.use(u - 1, SHAPE, u);
        }
        x.make(16);
        x.give(15, MARK, 0, 0, false);
        due("one is needed", x.needs(), 1);
        due("all lead there", x.coarse(), 16);
        x.take(15, MARK, 0);
        x.give(0, MARK, 0, 0, false);
        due("nobody leads there", x.coarse(), 1);
        x.give(7, MARK, 0, 0, false);
        due("each once", x.coarse(), 8);
        x.make(16);
        x.way(15, 0);
        x.force(15);
        x.give(0, SHAPE, 0, 0, false);
        x.use(15, SHAPE, 0);
        x.force(15);
        x.force(0);
        due("round, but none is needed by 1, 2", x.coarse(), 0);
        x.give(0, SHAPE, 0, 1, false);
        due("the last leads to the first, all lead round", x.coarse(), 16);
        x.unuse(0, 0);
        x.force(0);
        due("open again", x.coarse(), 0);
        x.give(0, SHAPE, 0, 2, false);
        due("all lead to the first, the last by one step", x.coarse(), 16);
    }

    private static void orderFirstAndLast() {
        Due.told("Promise 28: UNIT at a place of THE ORDER.");
        RemakeNeeds2 x = with(16);
        due("the first", x.order(0), 0);
        due("the last", x.order(15), 15);
        Due.throwsIt("behind", Checks.NO_PLACE, () -> x.order(16));
        Due.throwsIt("before", Checks.NO_PLACE, () -> x.order(-1));
        x.remove(0);
        due("the first now", x.order(0), 1);
        due("the last now", x.order(14), 15);
        Due.throwsIt("behind now", Checks.NO_PLACE, () -> x.order(15));
    }

    private static void ringFirstAndLast() {
        Due.told("Promise 29: The RING of a UNIT.");
        RemakeNeeds2 x = with(16);
        due("the first", x.ring(0), 0);
        due("the last", x.ring(15), 15);
        x.reader(15, true);
        x.generated(0, 15);
        due("the last is fifteenth", x.ring(15), 14);
        due("the first comes behind it", x.ring(0), 15);
        x.remove(0);
        due("as before, one down", x.ring(1) * 100 + x.ring(15), 14);
    }

    private static void leadsToItself() {
        Due.told("Promise 30: (also to itself: if it is in a RING with others, or finds itself) (1, 0)");
        RemakeNeeds2 x = with(3);
        due("neither", x.leads(0, 0), 0);
        x.give(0, CONSTANT, 0, 0, true);
        x.use(0, CONSTANT, 0);
        due("finds itself", x.leads(0, 0), 1);
        x.reader(1, true);
        x.generated(2, 1);
        due("generated leads not to itself", x.leads(2, 2) + x.leads(1, 1), 0);
        x.give(2, SHAPE, 1, 0, false);
        x.way(1, 2);
        x.use(1, SHAPE, 1);
        due("a reader that finds in what it generates", x.leads(2, 2) + x.leads(1, 1), 2);
        due("a ring", x.count(3), 1);
    }

    private static void countOfUnits() {
        Due.told("Promise 31: 0 UNITS that are there, 1 ever");
        RemakeNeeds2 x = new RemakeNeeds2();
        for (int u = 0; u < 16; u++) {
            due("there and ever", x.count(0) * 100 + x.count(1), u * 101);
            x.unit();
        }
        due("sixteen", x.count(0) * 100 + x.count(1), 1616);
        x.unit();
        due("no more", x.count(0) * 100 + x.count(1), 1616);
        x.remove(0);
        due("one gone", x.count(0) * 100 + x.count(1), 1516);
        x.clear();
        due("none", x.count(0) * 100 + x.count(1), 0);
    }

    private static void countOfRings() {
        Due.told("Promise 31: 2 RINGS, 3 RINGS of more than one");
        RemakeNeeds2 x = with(16);
        due("alone each", x.count(2) * 100 + x.count(3), 1600);
        for (int u = 0; u < 16; u += 2) {
            x.give(u, SHAPE, u, 0, false);
            x.give(u + 1, SHAPE, u + 1, 0, false);
            x.way(u, u + 1);
            x.way(u + 1, u);
            x.use(u, SHAPE, u + 1);
            due("one way", x.count(3), u / 2);
            x.use(u + 1, SHAPE, u);
            due("two more", x.count(2) * 100 + x.count(3), (15 - u / 2) * 100 + u / 2 + 1);
        }
        x.remove(0);
        due("of more than one, asked first", x.count(3), 7);
        due("one is alone", x.count(2) * 100 + x.count(3), 807);
        x.remove(1);
        due("seven", x.count(2) * 100 + x.count(3), 707);
    }

    private static void countOfMade() {
        Due.told("Promise 31: 4 how often was made in all.");
        RemakeNeeds2 x = with(3);
        due("never", x.count(4), 0);
        x.make(2);
        due("two", x.count(4), 2);
        x.force(0);
        due("not needed, too", x.count(4), 3);
        x.make(16);
        due("the third", x.count(4), 4);
        x.make(16);
        due("nothing to make", x.count(4), 4);
        x.remove(0);
        due("of one that is gone, too", x.count(4), 4);
        x.clear();
        due("all is gone", x.count(4), 0);
    }

    private static void clearNone() {
        Due.told("Promise 32: how many UNITS were there: none");
        RemakeNeeds2 x = new RemakeNeeds2();
        due("new", x.clear(), 0);
        x.unit();
        x.remove(0);
        due("gone", x.clear(), 0);
        due("none ever", x.count(1), 0);
        x.unit();
        x.unit();
        x.remove(0);
        due("one of two", x.clear(), 1);
        due("again", x.clear(), 0);
    }

    private static void clearAll() {
        Due.told("Promise 32: All is gone");
        Answers.Scene all = x -> {
            for (int u = 0; u < 16; u++) {
                x.unit();
                x.give(u, CONSTANT, u, u, true);
                x.build(u, u, u);
                x.give(u, MARK, u, u, false);
                x.use(u, SHAPE, u);
            }
            for (int u = 0; u < 16; u++) {
                x.way(u, (u + 1) % 16);
            }
            x.reader(0, true);
            x.generated(1, 0);
            x.make(16);
            x.force(3);
            x.remove(2);
            x.clear();
        };
        Answers.same("as new", Answers.behind(all), Answers.behind(x -> { }));
        Answers.same("three units as new", Answers.behind(x -> {
            all.on(x);
            three(x);
        }), Answers.behind(CallsEdgesTest::three));
    }

    private static void three(RemakeNeeds2 x) {
        for (int u = 0; u < 3; u++) {
            x.unit();
            x.give(u, CONSTANT, 30 + u % 2, 7, false);
        }
        x.way(0, 1);
        x.force(0);
    }

    private static void wholeLifeOfForcing() {
        Due.told("An object is used for at most 512 calls: forcing");
        RemakeNeeds2 x = with(1);
        for (int time = 1; time <= 510; time++) {
            due("time", x.force(0), time);
        }
        due("in all, by the 512th call", x.count(4), 510);
    }

    private static void wholeLifeOfClearing() {
        Due.told("An object is used for at most 512 calls: clearing");
        RemakeNeeds2 x = new RemakeNeeds2();
        for (int time = 0; time < 30; time++) {
            for (int u = 0; u < 16; u++) {
                due("unit", x.unit(), u);
            }
            due("clear", x.clear(), 16);
        }
        due("none", x.count(0), 0);
        due("the first, by the 512th call", x.unit(), 0);
    }

    private static void wholeLifeOfThrowing() {
        Due.told("An object is used for at most 512 calls: throwing");
        RemakeNeeds2 x = with(1);
        for (int time = 0; time < 170; time++) {
            Due.throwsIt("kept", Checks.NEVER_MADE, () -> x.kept(0, 0));
            Due.throwsIt("row", Checks.NO_PLACE, () -> x.row(0, 5));
            Due.throwsIt("order", Checks.NO_PLACE, () -> x.order(1));
        }
        due("as it was, by the 512th call", x.why(0), 1);
    }

    private static void wholeLifeOfComingAndGoing() {
        Due.told("An object is used for at most 512 calls: coming and going");
        RemakeNeeds2 x = with(2);
        for (int time = 0; time < 56; time++) {
            int name = time % 32;
            due("give", x.give(0, CONSTANT, name, time, false), 1);
            due("build", x.build(0, name, name), 1);
            due("use", x.use(0, CONSTANT, name), 1);
            due("way", x.way(0, 1), 1);
            due("missing", x.missing(0), 0);
            due("unway", x.unway(0), 1);
            due("unuse", x.unuse(0, 0), 0);
            due("take", x.take(0, CONSTANT, name), 1);
            due("size", x.size(0), 5);
        }
        due("never made", x.why(0), 1);
    }
}
