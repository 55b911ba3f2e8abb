/** The boundary cases that "Terms" names, a test for each sentence. */
public final class TermsEdgesTest {
    private static final int UNKNOWN = -1, OUTSIDE = -2, STATE = -3, FULL = -4, NONE = -5;
    private static final int SHAPE = 0, CONSTANT = 1, MARK = 2;
    private static final long LEAST = Long.MIN_VALUE, MOST = Long.MAX_VALUE;

    public static void main(String[] args) {
        sixteenUnitsEver();
        namesOfGiving();
        namesOfBuilding();
        namesOfUsing();
        sortsOfGiving();
        sortsOfUsing();
        digestsOfAllLongs();
        tenThings();
        tenThingsAndPrivateOnes();
        builtOfThree();
        sixOnTheWay();
        twelveUses();
        namesOfConstantsAreLookedFor();
        lookingInItself();
        lookingAlongTheWay();
        lookingForPrivateOnes();
        lookingNoFarther();
        lookingInVain();
        valueWraps();
        valueOneForEach();
        valueOfNothingFound();
        valueFromItsUnit();
        roundByItself();
        roundThroughOthers();
        roundOnlyIfFound();
        roundAndNoValue();
        readersAreNotGenerated();

        rowOfAnEmptyUnit();
        rowBySortsThenNames();
        rowOfPrivateOnes();
        rowOfWhatIsBuilt();
        rowOfTheWay();
        rowOfUses();
        rowOfNoFind();
        rowOfNamesOfConstants();
        rowOfNoReader();
        rowOfNoMarks();
        rowOfAllMarks();
        rowOfGenerated();
        rowLongest();
        digestOfNothing();
        digestOfEdges();
        keepsAsThen();
        neededNeverMade();
        neededOnlyForAnotherRow();
        neededByAnotherReaderAlike();
        outputOfWhatIsKept();
        whyOfEachKind();
        whyTheFirstThatFits();
        whyHowMany();
        whyUsesInOrder();
        whyOfTheLastUse();

        leadsNotToItself();
        leadsToItselfByItself();
        leadsOnAndOn();
        leadsByFindingAlone();
        leadsToTheReader();
        ringOfAll();
        ringOfOne();
        orderOfNone();
        orderByTheLeast();
        orderBackwards();
        orderInARing();
        ringsFromZero();
        chainOfNothing();
        chainComesToItself();
        chainNotIntoItselfAgain();
        chainEachOnce();
        chainBehindBeforeNext();
        chainLongest();
        Due.finish();
    }

    private static void due(String what, long got, long want) {
        Due.due(what, got, want);
    }

    private static RemakeNeeds2 with(int units) {
        return Checks.with(units);
    }

    private static void sixteenUnitsEver() {
        Due.told("UNITS 0, 1, .. (16 ever), as they come.");
        RemakeNeeds2 x = new RemakeNeeds2();
        for (int u = 0; u < 10; u++) {
            due("number", x.unit(), u);
            due("gone", x.remove(u), 0);
        }
        for (int u = 10; u < 15; u++) {
            due("number", x.unit(), u);
        }
        due("the last", x.unit(), 15);
        due("no more", x.unit(), FULL);
        due("and no more", x.unit(), FULL);
        due("six are there", x.count(0), 6);
    }

    private static void namesOfGiving() {
        Due.told("NAMES are 0 .. 31.");
        for (int sort = 0; sort < 3; sort++) {
            RemakeNeeds2 x = with(1);
            due("give 0", x.give(0, sort, 0, 1, false), 1);
            due("give 31", x.give(0, sort, 31, 2, false), 1);
            for (int name : new int[] {-1, 32, Integer.MIN_VALUE, Integer.MAX_VALUE}) {
                due("give " + name, x.give(0, sort, name, 3, false), OUTSIDE);
                due("found " + name, x.found(0, sort, name), OUTSIDE);
                due("take " + name, x.take(0, sort, name), OUTSIDE);
            }
            Checks.rowIs("two", x, 0, 2, sort, 0, 1, 0, 0, sort, 31, 2, 0, 0, 0, 0, 0, 0);
            due("found 0", x.found(0, sort, 0), 0);
            due("found 31", x.found(0, sort, 31), 0);
            due("take 0", x.take(0, sort, 0), 1);
            due("take 31", x.take(0, sort, 31), 1);
        }
    }

    private static void namesOfBuilding() {
        Due.told("NAMES are 0 .. 31: BUILT");
        RemakeNeeds2 x = with(1);
        x.give(0, CONSTANT, 0, 1, false);
        x.give(0, CONSTANT, 31, 2, false);
        due("0 of 31", x.build(0, 0, 31), 1);
        due("31 of 31", x.build(0, 31, 31), 1);
        due("31 of 0", x.build(0, 31, 0), 2);
        for (int name : new int[] {-1, 32, Integer.MIN_VALUE, Integer.MAX_VALUE}) {
            due("of " + name, x.build(0, 0, name), OUTSIDE);
            due(name + " of", x.build(0, name, 0), OUTSIDE);
        }
        Checks.rowIs("built", x, 0, 2, 1, 0, 1, 0, 1, 31, 1, 31, 2, 0, 2, 31, 0, 0, 0, 0, 0, 0, 0, 0, 0, 0, 0);
    }

    private static void namesOfUsing() {
        Due.told("NAMES are 0 .. 31: USES");
        RemakeNeeds2 x = with(1);
        due("0", x.use(0, SHAPE, 0), 1);
        due("31", x.use(0, CONSTANT, 31), 2);
        for (int name : new int[] {-1, 32, Integer.MIN_VALUE, Integer.MAX_VALUE}) {
            due("use " + name, x.use(0, SHAPE, name), OUTSIDE);
            due("use " + name, x.use(0, CONSTANT, name), OUTSIDE);
        }
        Checks.rowIs("two", x, 0, 0, 0, 2, 0, 0, NONE, 0, 1, 31, NONE, 0, 0, 0);
    }

    private static void sortsOfGiving() {
        Due.told("for a SORT (0 SHAPE, 1 CONSTANT, 2 MARK)");
        RemakeNeeds2 x = with(1);
        for (int sort : new int[] {-1, 3, Integer.MIN_VALUE, Integer.MAX_VALUE}) {
            due("give " + sort, x.give(0, sort, 1, 1, false), OUTSIDE);
            due("found " + sort, x.found(0, sort, 1), OUTSIDE);
            due("take " + sort, x.take(0, sort, 1), OUTSIDE);
        }
        for (int sort = 0; sort < 3; sort++) {
            due("not given", x.found(0, sort, 31), NONE);
            due("give", x.give(0, sort, 31, sort, false), 1);
        }
        due("a mark that is no shape of another name", x.found(0, SHAPE, 0) + x.found(0, CONSTANT, 0), 2 * NONE);
        Checks.rowIs("apart", x, 0, 3, 0, 31, 0, 0, 0, 1, 31, 1, 0, 0, 2, 31, 2, 0, 0, 0, 0, 0, 0);
        due("take one of them", x.take(0, CONSTANT, 31), 1);
        due("not the shape", x.found(0, SHAPE, 31), 0);
        due("not the mark", x.found(0, MARK, 31), 0);
        due("but that", x.found(0, CONSTANT, 31), NONE);
    }

    private static void sortsOfUsing() {
        Due.told("USES: SHAPES and CONSTANTS by NAMES");
        RemakeNeeds2 x = with(1);
        for (int sort : new int[] {-1, MARK, 3, Integer.MIN_VALUE, Integer.MAX_VALUE}) {
            due("use " + sort, x.use(0, sort, 1), OUTSIDE);
        }
        due("a shape", x.use(0, SHAPE, 1), 1);
        due("a constant of the same name", x.use(0, CONSTANT, 1), 2);
    }

    private static void digestsOfAllLongs() {
        Due.told("a DIGEST (a long)");
        RemakeNeeds2 x = with(2);
        long[] digests = {LEAST, LEAST + 1, -1, 0, 1, 1L << 32, MOST - 1, MOST};
        for (int i = 0; i < digests.length; i++) {
            due("give", x.give(0, i % 3, i, digests[i], false), 1);
        }
        for (int i = 0; i < digests.length; i++) {
            int before = 0;
            for (int j = 0; j < digests.length; j++) {
                before += j % 3 < i % 3 || j % 3 == i % 3 && j < i ? 1 : 0;
            }
            due("digest in the row", x.row(0, 1 + before * 5 + 2), digests[i]);
        }
        x.way(1, 0);
        x.use(1, SHAPE, 0);
        x.use(1, CONSTANT, 7);
        Checks.rowIs("found", x, 1, 0, 1, 0, 2, 0, 0, 0, LEAST, 1, 7, 0, MOST, 0, 0);
    }

    private static void tenThings() {
        Due.told("10 at most.");
        for (int sort = 0; sort < 3; sort++) {
            RemakeNeeds2 x = with(2);
            for (int n = 0; n < 9; n++) {
                due("give", x.give(0, sort, n, n, false), 1);
            }
            due("the tenth", x.give(0, sort, 31, 10, false), 1);
            due("the eleventh", x.give(0, sort, 30, 11, false), FULL);
            due("of another sort", x.give(0, (sort + 1) % 3, 0, 11, false), FULL);
            due("ten", x.row(0, 0), 10);
            due("in place", x.give(0, sort, 31, 12, false), 0);
            due("the other unit has room", x.give(1, sort, 30, 11, false), 1);
            due("one goes", x.take(0, sort, 4), 1);
            due("one comes", x.give(0, (sort + 1) % 3, 0, 11, false), 1);
            due("full again", x.give(0, sort, 4, 11, false), FULL);
        }
    }

    private static void tenThingsAndPrivateOnes() {
        Due.told("as a PRIVATE one or not: 10 at most.");
        RemakeNeeds2 x = with(1);
        for (int n = 0; n < 10; n++) {
            due("give", x.give(0, n % 3, n, n, n % 2 == 0), 1);
        }
        due("a private eleventh", x.give(0, SHAPE, 20, 1, true), FULL);
        due("an eleventh", x.give(0, SHAPE, 20, 1, false), FULL);
        due("a private one in place", x.give(0, CONSTANT, 1, 1, true), 0);
        due("and not private again", x.give(0, CONSTANT, 1, 1, false), 0);
    }

    private static void builtOfThree() {
        Due.told("A CONSTANT that it gives may be BUILT of NAMES, 3 at most.");
        RemakeNeeds2 x = with(1);
        x.give(0, CONSTANT, 1, 1, false);
        x.give(0, CONSTANT, 2, 1, false);
        due("of none", x.row(0, 5), 0);
        for (int i = 1; i <= 3; i++) {
            due("of one more", x.build(0, 1, 30), i);
        }
        due("of a fourth", x.build(0, 1, 30), FULL);
        due("of a fourth, another", x.build(0, 1, 29), FULL);
        due("of three", x.row(0, 5), 3);
        due("another constant", x.build(0, 2, 30), 1);
        x.give(0, CONSTANT, 1, 5, true);
        due("still, given in place", x.build(0, 1, 29), FULL);
        x.take(0, CONSTANT, 1);
        x.give(0, CONSTANT, 1, 5, true);
        due("given anew", x.build(0, 1, 29), 1);
    }

    private static void sixOnTheWay() {
        Due.told("It has a WAY: other UNITS, 6 at most, in order");
        RemakeNeeds2 x = with(16);
        int[] others = {15, 0, 8, 3, 14, 1};
        for (int i = 0; i < 6; i++) {
            due("one more", x.way(7, others[i]), i + 1);
        }
        due("a seventh", x.way(7, 2), FULL);
        Checks.rowIs("in order", x, 7, 0, 6, 15, 0, 8, 3, 14, 1, 0, 0, 0);
        due("one goes", x.remove(8), 15);
        due("one comes", x.way(7, 2), 6);
        due("a seventh again", x.way(7, 4), FULL);
        Checks.rowIs("at the end", x, 7, 0, 6, 15, 0, 3, 14, 1, 2, 0, 0, 0);
    }

    private static void twelveUses() {
        Due.told("USES: .. 12 at most, in order");
        RemakeNeeds2 x = with(2);
        for (int i = 0; i < 12; i++) {
            due("one more", x.use(0, i % 2, 31 - i), i + 1);
        }
        due("a thirteenth", x.use(0, SHAPE, 0), FULL);
        due("a thirteenth, of the other sort", x.use(0, CONSTANT, 0), FULL);
        due("the other unit has room", x.use(1, CONSTANT, 0), 1);
        for (int i = 0; i < 12; i++) {
            due("sort " + i, x.row(0, 3 + i * 4), i % 2);
            due("name " + i, x.row(0, 4 + i * 4), 31 - i);
        }
        due("one goes", x.unuse(0, 11), 11);
        due("one comes", x.use(0, CONSTANT, 0), 12);
        due("full again", x.use(0, CONSTANT, 1), FULL);
    }

    private static void namesOfConstantsAreLookedFor() {
        Due.told("besides, each NAME of which a CONSTANT of its own is BUILT is looked for.");
        RemakeNeeds2 x = with(1);
        for (int n = 0; n < 10; n++) {
            x.give(0, CONSTANT, n, 1, false);
            for (int i = 0; i < 3; i++) {
                x.build(0, n, 31 - i);
            }
        }
        due("ten of three", x.missing(0), 30);
        for (int i = 0; i < 12; i++) {
            x.use(0, SHAPE, i);
        }
        due("and twelve uses", x.missing(0), 42);
        due("all in the row", x.size(0), 1 + 10 * 8 + 1 + 1 + 12 * 4 + 30 * 2 + 2);
    }

    private static void lookingInItself() {
        Due.told("LOOKING: in itself, then in the UNITS of its WAY");
        RemakeNeeds2 x = with(2);
        x.way(0, 1);
        for (int sort = 0; sort < 3; sort++) {
            x.give(1, sort, 4, 1, false);
            due("on the way", x.found(0, sort, 4), 1);
            x.give(0, sort, 4, 0, false);
            due("in itself", x.found(0, sort, 4), 0);
            x.take(0, sort, 4);
            due("on the way again", x.found(0, sort, 4), 1);
        }
    }

    private static void lookingAlongTheWay() {
        Due.told("in the UNITS of its WAY, in order: the first that gives it");
        RemakeNeeds2 x = with(8);
        for (int u = 6; u > 0; u--) {
            x.way(0, u);
        }
        x.give(7, SHAPE, 1, 1, false);
        due("not on the way", x.found(0, SHAPE, 1), NONE);
        for (int u = 1; u <= 6; u++) {
            x.give(u, SHAPE, 1, 1, false);
            due("the first of " + u, x.found(0, SHAPE, 1), u);
        }
    }

    private static void lookingForPrivateOnes() {
        Due.told("and not as a PRIVATE one but in itself, is FOUND");
        RemakeNeeds2 x = with(3);
        x.way(0, 1);
        x.way(0, 2);
        for (int sort = 0; sort < 3; sort++) {
            x.give(1, sort, 9, 1, true);
            due("a private one", x.found(0, sort, 9), NONE);
            due("its own", x.found(1, sort, 9), 1);
            x.give(2, sort, 9, 1, false);
            due("past the private one", x.found(0, sort, 9), 2);
            x.give(0, sort, 9, 1, true);
            due("its own private one", x.found(0, sort, 9), 0);
            x.take(0, sort, 9);
            x.give(1, sort, 9, 1, false);
            due("private no more", x.found(0, sort, 9), 1);
        }
    }

    private static void lookingNoFarther() {
        Due.told("in itself, then in the UNITS of its WAY: not in theirs");
        RemakeNeeds2 x = with(3);
        x.way(0, 1);
        x.way(1, 2);
        x.give(2, CONSTANT, 3, 1, false);
        due("one step", x.found(1, CONSTANT, 3), 2);
        due("two steps", x.found(0, CONSTANT, 3), NONE);
        due("backwards", x.found(2, CONSTANT, 4), NONE);
    }

    private static void lookingInVain() {
        Due.told("else NONE.");
        RemakeNeeds2 x = with(2);
        due("nobody gives, no way", x.found(0, SHAPE, 0), NONE);
        x.give(1, SHAPE, 0, 1, false);
        due("no way", x.found(0, SHAPE, 0), NONE);
        x.way(0, 1);
        due("on the way", x.found(0, SHAPE, 0), 1);
        due("another sort", x.found(0, CONSTANT, 0), NONE);
        due("another name", x.found(0, SHAPE, 1), NONE);
        x.remove(1);
        due("gone", x.found(0, SHAPE, 0), NONE);
    }

    private static void valueWraps() {
        Due.told("summed (64 bits, wrapping)");
        RemakeNeeds2 x = with(1);
        x.give(0, CONSTANT, 0, MOST, false);
        x.give(0, CONSTANT, 1, 1, false);
        x.give(0, CONSTANT, 2, -1, false);
        x.give(0, CONSTANT, 3, LEAST, false);
        x.build(0, 1, 0);
        due("1 and the most", x.value(0, 1), LEAST);
        x.build(0, 2, 3);
        due("-1 and the least", x.value(0, 2), MOST);
        x.give(0, CONSTANT, 4, LEAST, false);
        x.build(0, 4, 3);
        due("the least twice", x.value(0, 4), 0);
        x.give(0, CONSTANT, 5, MOST, false);
        x.build(0, 5, 0);
        due("the most twice", x.value(0, 5), -2);
        x.build(0, 5, 0);
        x.build(0, 5, 0);
        due("the most four times", x.value(0, 5), -4);
        x.give(0, CONSTANT, 6, 0, false);
        x.build(0, 6, 1);
        due("through one that wraps", x.value(0, 6), LEAST);
        due("just below", x.give(0, CONSTANT, 1, 0, false) + x.value(0, 6), MOST);
    }

    private static void valueOneForEach() {
        Due.told("and the VALUES .. for the NAMES of which it is BUILT, one for each");
        RemakeNeeds2 x = with(1);
        x.give(0, CONSTANT, 0, 100, false);
        x.give(0, CONSTANT, 1, 1, false);
        due("of none", x.value(0, 0), 100);
        for (int i = 1; i <= 3; i++) {
            x.build(0, 0, 1);
            due("of the same, " + i, x.value(0, 0), 100 + i);
        }
        due("each is not round", x.round(0, 0), 0);
    }

    private static void valueOfNothingFound() {
        Due.told("what is not FOUND adds 0.");
        RemakeNeeds2 x = with(2);
        x.give(0, CONSTANT, 0, 7, false);
        x.build(0, 0, 1);
        x.build(0, 0, 2);
        x.build(0, 0, 1);
        due("none found", x.value(0, 0), 7);
        x.give(0, SHAPE, 1, 50, false);
        x.give(0, MARK, 1, 50, false);
        due("a shape is no constant", x.value(0, 0), 7);
        x.way(0, 1);
        x.give(1, CONSTANT, 1, 10, true);
        due("a private one", x.value(0, 0), 7);
        x.give(1, CONSTANT, 1, 10, false);
        due("two found", x.value(0, 0), 27);
        x.remove(1);
        due("gone", x.value(0, 0), 7);
    }

    private static void valueFromItsUnit() {
        Due.told("the VALUES of the CONSTANTS that are FOUND (from its UNIT)");
        RemakeNeeds2 x = with(3);
        x.way(0, 1);
        x.way(1, 2);
        x.give(0, CONSTANT, 1, 1, false);
        x.build(0, 1, 2);
        x.give(1, CONSTANT, 2, 10, false);
        x.build(1, 2, 3);
        x.give(2, CONSTANT, 3, 100, false);
        due("what 0 itself does not find", x.value(0, 1), 111);
        x.give(0, CONSTANT, 3, 5000, false);
        due("what 0 gives is not asked", x.value(0, 1), 111);
        x.give(1, CONSTANT, 3, 2000, true);
        due("a private one of its unit", x.value(0, 1), 2011);
    }

    private static void roundByItself() {
        Due.told("A CONSTANT is ROUND, if it leads so to itself");
        RemakeNeeds2 x = with(1);
        x.give(0, CONSTANT, 0, 5, false);
        due("built of nothing", x.round(0, 0), 0);
        x.build(0, 0, 0);
        due("built of itself", x.round(0, 0), 1);
        due("has no value", x.value(0, 0), 0);
    }

    private static void roundThroughOthers() {
        Due.told("A CONSTANT is ROUND, if it leads so to itself: through others");
        RemakeNeeds2 x = with(2);
        x.way(0, 1);
        x.way(1, 0);
        for (int n = 0; n < 8; n++) {
            x.give(n % 2, CONSTANT, n, 1, false);
        }
        for (int n = 0; n < 7; n++) {
            x.build(n % 2, n, n + 1);
        }
        for (int n = 0; n < 8; n++) {
            due("open end: round " + n, x.round(n % 2, n), 0);
            due("open end: value " + n, x.value(n % 2, n), 8 - n);
        }
        x.build(1, 7, 4);
        for (int n = 0; n < 8; n++) {
            due("round " + n, x.round(n % 2, n), 1);
        }
        x.give(0, CONSTANT, 20, 3, false);
        x.give(0, CONSTANT, 21, 4, false);
        x.build(0, 20, 21);
        due("one aside is not round", x.round(0, 20), 0);
        due("and has its value", x.value(0, 20), 7);
    }

    private static void roundOnlyIfFound() {
        Due.told("A CONSTANT is ROUND .. CONSTANTS that are FOUND");
        RemakeNeeds2 x = with(2);
        x.way(0, 1);
        x.way(1, 0);
        x.give(0, CONSTANT, 0, 1, true);
        x.give(1, CONSTANT, 1, 2, false);
        x.build(0, 0, 1);
        x.build(1, 1, 0);
        due("not back to a private one", x.round(0, 0), 0);
        due("so it has a value", x.value(0, 0), 3);
        x.give(0, CONSTANT, 0, 1, false);
        due("back to it", x.round(0, 0) + x.round(1, 1), 2);
        x.give(1, CONSTANT, 0, 4, true);
        due("another one of that name is found", x.round(0, 0) + x.round(1, 1), 0);
        due("and counts", x.value(0, 0), 1 + 2 + 4);
    }

    private static void roundAndNoValue() {
        Due.told("the VALUE of one that is ROUND, or leads to one, is 0.");
        RemakeNeeds2 x = with(1);
        for (int n = 0; n < 6; n++) {
            x.give(0, CONSTANT, n, 10 + n, false);
        }
        x.build(0, 0, 1);
        x.build(0, 0, 5);
        x.build(0, 1, 2);
        x.build(0, 2, 3);
        x.build(0, 3, 2);
        x.build(0, 3, 4);
        due("leads there by two", x.value(0, 0), 0);
        due("leads there by one", x.value(0, 1), 0);
        due("in it", x.value(0, 2), 0);
        due("in it", x.value(0, 3), 0);
        due("led to from it", x.value(0, 4), 14);
        due("aside", x.value(0, 5), 15);
        x.take(0, CONSTANT, 3);
        due("no more: leads there by two", x.value(0, 0), 10 + 11 + 12 + 15);
        due("no more: leads there by one", x.value(0, 1), 11 + 12);
    }

    private static void readersAreNotGenerated() {
        Due.told("A UNIT may be a READER of MARKS; one that is none may be GENERATED by a READER.");
        RemakeNeeds2 x = with(3);
        due("by one that is none", x.generated(0, 1), STATE);
        due("a reader", x.reader(1, true), 0);
        due("by a reader", x.generated(0, 1), 1);
        due("a generated one reads", x.reader(0, true), STATE);
        due("another reader", x.reader(2, true), 0);
        due("a reader by a reader", x.generated(2, 1), STATE);
        due("no reader more", x.reader(2, false), 1);
        due("now it may be", x.generated(2, 1), 1);
        due("by one that is generated", x.generated(0, 2), STATE);
    }

    private static void rowOfAnEmptyUnit() {
        Due.told("THE ROW of a UNIT: how many .. (else 0 alone) .. (else 0 alone)");
        RemakeNeeds2 x = with(16);
        Checks.rowIs("the first", x, 0, 0, 0, 0, 0, 0);
        Checks.rowIs("the last", x, 15, 0, 0, 0, 0, 0);
    }

    private static void rowBySortsThenNames() {
        Due.told("for each thing that it gives, by SORTS, then by NAMES");
        RemakeNeeds2 x = with(1);
        x.give(0, MARK, 0, 5, false);
        x.give(0, CONSTANT, 31, 4, false);
        x.give(0, SHAPE, 31, 2, false);
        x.give(0, MARK, 31, 6, false);
        x.give(0, SHAPE, 0, 1, false);
        x.give(0, CONSTANT, 0, 3, false);
        Checks.rowIs("as they are ordered", x, 0, 6, 0, 0, 1, 0, 0, 0, 31, 2, 0, 0, 1, 0, 3, 0, 0, 1, 31, 4, 0, 0,
                2, 0, 5, 0, 0, 2, 31, 6, 0, 0, 0, 0, 0, 0);
        x.take(0, SHAPE, 0);
        x.take(0, MARK, 31);
        x.take(0, CONSTANT, 31);
        Checks.rowIs("the first and the last gone", x, 0, 3, 0, 31, 2, 0, 0, 1, 0, 3, 0, 0, 2, 0, 5, 0, 0, 0, 0, 0, 0);
        x.give(0, SHAPE, 0, 9, false);
        Checks.rowIs("the first again", x, 0, 4, 0, 0, 9, 0, 0, 0, 31, 2, 0, 0, 1, 0, 3, 0, 0, 2, 0, 5, 0, 0,
                0, 0, 0, 0);
    }

    private static void rowOfPrivateOnes() {
        Due.told("1 or 0 (PRIVATE)");
        RemakeNeeds2 x = with(1);
        x.give(0, SHAPE, 1, 0, true);
        due("private", x.row(0, 4), 1);
        x.give(0, SHAPE, 1, 0, false);
        due("not", x.row(0, 4), 0);
        x.give(0, SHAPE, 1, 0, true);
        due("private again", x.row(0, 4), 1);
    }

    private static void rowOfWhatIsBuilt() {
        Due.told("how many NAMES it is BUILT of, these in order");
        RemakeNeeds2 x = with(1);
        x.give(0, CONSTANT, 5, 1, true);
        Checks.rowIs("none", x, 0, 1, 1, 5, 1, 1, 0, 0, 0, 0, 0);
        x.build(0, 5, 31);
        x.build(0, 5, 0);
        x.build(0, 5, 31);
        Checks.rowIs("three", x, 0, 1, 1, 5, 1, 1, 3, 31, 0, 31, 0, 0, NONE, 0, NONE, 0, NONE, 0, 0, 0);
        x.take(0, CONSTANT, 5);
        x.give(0, CONSTANT, 4, 1, true);
        Checks.rowIs("a new one is built of none", x, 0, 1, 1, 4, 1, 1, 0, 0, 0, 0, 0);
    }

    private static void rowOfTheWay() {
        Due.told("then the UNITS of its WAY: how many, these");
        RemakeNeeds2 x = with(16);
        x.way(0, 15);
        x.way(0, 1);
        Checks.rowIs("two", x, 0, 0, 2, 15, 1, 0, 0, 0);
        x.remove(15);
        Checks.rowIs("one", x, 0, 0, 1, 1, 0, 0, 0);
        x.unway(0);
        Checks.rowIs("none", x, 0, 0, 0, 0, 0, 0);
    }

    private static void rowOfUses() {
        Due.told("for each SORT, NAME, the UNIT that is FOUND, and of a SHAPE its DIGEST there, of a CONSTANT its VALUE");
        RemakeNeeds2 x = with(2);
        x.way(0, 1);
        x.give(1, SHAPE, 3, MOST, false);
        x.give(1, CONSTANT, 3, MOST, false);
        x.give(1, CONSTANT, 4, 2, true);
        x.build(1, 3, 4);
        x.use(0, CONSTANT, 3);
        x.use(0, SHAPE, 3);
        Checks.rowIs("a value that wraps, a digest", x, 0, 0, 1, 1, 2, 1, 3, 1, LEAST + 1, 0, 3, 1, MOST, 0, 0);
        x.build(1, 4, 3);
        Checks.rowIs("a round one has no value", x, 0, 0, 1, 1, 2, 1, 3, 1, 0, 0, 3, 1, MOST, 0, 0);
    }

    private static void rowOfNoFind() {
        Due.told("the UNIT that is FOUND (NONE), .. (0 with NONE)");
        RemakeNeeds2 x = with(2);
        x.use(0, SHAPE, 3);
        x.use(0, CONSTANT, 3);
        Checks.rowIs("nothing on the way", x, 0, 0, 0, 2, 0, 3, NONE, 0, 1, 3, NONE, 0, 0, 0);
        x.way(0, 1);
        x.give(1, SHAPE, 3, 8, true);
        x.give(1, CONSTANT, 3, 9, true);
        Checks.rowIs("private ones", x, 0, 0, 1, 1, 2, 0, 3, NONE, 0, 1, 3, NONE, 0, 0, 0);
        x.give(0, MARK, 3, 7, false);
        Checks.rowIs("a mark is neither", x, 0, 1, 2, 3, 7, 0, 0, 1, 1, 2, 0, 3, NONE, 0, 1, 3, NONE, 0, 0, 0);
    }

    private static void rowOfNamesOfConstants() {
        Due.told("for each CONSTANT that it gives and each NAME of which that is BUILT, in this order, likewise");
        RemakeNeeds2 x = with(2);
        x.way(0, 1);
        x.give(0, CONSTANT, 9, 1, false);
        x.build(0, 9, 8);
        x.build(0, 9, 7);
        x.give(0, CONSTANT, 8, 2, false);
        x.build(0, 8, 7);
        x.build(0, 8, 30);
        x.give(1, CONSTANT, 7, 4, false);
        x.use(0, SHAPE, 1);
        Checks.rowIs("by constants, then as built", x, 0, 2, 1, 8, 2, 0, 2, 7, 30, 1, 9, 1, 0, 2, 8, 7, 1, 1,
                1, 0, 1, NONE, 0, 1, 4, NONE, 0, 0, 6, 1, 4, 0, 0);
    }

    private static void rowOfNoReader() {
        Due.told("if it is a READER, for each MARK .. (else 0 alone)");
        RemakeNeeds2 x = with(2);
        x.give(1, MARK, 1, 1, false);
        Checks.rowIs("none", x, 0, 0, 0, 0, 0, 0);
        x.reader(0, true);
        Checks.rowIs("a reader", x, 0, 0, 0, 0, 1, 1, 1, 1, 0);
        x.reader(0, false);
        Checks.rowIs("none again", x, 0, 0, 0, 0, 0, 0);
    }

    private static void rowOfNoMarks() {
        Due.told("1 and, if it is a READER, for each MARK: also none");
        RemakeNeeds2 x = with(2);
        x.give(1, SHAPE, 1, 1, false);
        x.give(1, CONSTANT, 1, 1, false);
        x.reader(0, true);
        Checks.rowIs("1 alone", x, 0, 0, 0, 0, 1, 0);
    }

    private static void rowOfAllMarks() {
        Due.told("for each MARK that a UNIT that is there gives, by UNITS, then by NAMES: UNIT, NAME, DIGEST");
        RemakeNeeds2 x = with(16);
        x.give(15, MARK, 31, LEAST, false);
        x.give(15, MARK, 0, MOST, true);
        x.give(0, MARK, 31, 1, true);
        x.give(7, MARK, 5, 2, false);
        x.give(8, MARK, 5, 3, false);
        x.reader(7, true);
        Checks.rowIs("all, not by its way", x, 7, 1, 2, 5, 2, 0, 0, 0, 0,
                1, 0, 31, 1, 7, 5, 2, 8, 5, 3, 15, 0, MOST, 15, 31, LEAST, 0);
        x.remove(15);
        x.remove(0);
        Checks.rowIs("of those that are there", x, 7, 1, 2, 5, 2, 0, 0, 0, 0, 1, 7, 5, 2, 8, 5, 3, 0);
    }

    private static void rowOfGenerated() {
        Due.told("1 and, if it is GENERATED, the DIGEST OF THE ROW of that READER (else 0 alone).");
        RemakeNeeds2 x = with(3);
        Checks.rowIs("not", x, 0, 0, 0, 0, 0, 0);
        x.reader(1, true);
        x.generated(0, 1);
        Checks.rowIs("generated", x, 0, 0, 0, 0, 0, 1, Checks.digestOf(0, 0, 0, 1, 0));
        x.give(2, MARK, 31, MOST, true);
        Checks.rowIs("the reader's row as it is now", x, 0, 0, 0, 0, 0, 1, Checks.digestOf(0, 0, 0, 1, 2, 31, MOST, 0));
        x.generated(0, NONE);
        Checks.rowIs("not again", x, 0, 0, 0, 0, 0, 0);
    }

    private static void rowLongest() {
        Due.told("THE ROW of a UNIT, as it is now, is of longs: as long as it may be");
        RemakeNeeds2 x = with(16);
        for (int u = 0; u < 15; u++) {
            for (int n = 0; n < 10; n++) {
                x.give(u, MARK, n, LEAST + n, false);
            }
        }
        for (int n = 0; n < 10; n++) {
            x.give(15, CONSTANT, n, 1, false);
            for (int i = 0; i < 3; i++) {
                x.build(15, n, 9);
            }
        }
        for (int u = 0; u < 6; u++) {
            x.way(15, u);
        }
        for (int n = 0; n < 12; n++) {
            x.use(15, CONSTANT, n);
        }
        x.reader(15, true);
        int marks = 1 + 10 * 8 + 1 + 6 + 1 + 12 * 4 + 30 * 2 + 1;
        due("size", x.size(15), marks + 150 * 3 + 1);
        due("the first mark", x.row(15, marks) + x.row(15, marks + 1), 0);
        due("its digest", x.row(15, marks + 2), LEAST);
        due("the last mark", x.row(15, marks + 447) * 100 + x.row(15, marks + 448), 1409);
        due("its digest", x.row(15, marks + 449), LEAST + 9);
        due("the end", x.row(15, marks + 450), 0);
        Due.throwsIt("behind", Checks.NO_PLACE, () -> x.row(15, marks + 451));
        due("kept", x.force(15), 1);
        due("kept end", x.kept(15, marks + 449), LEAST + 9);
        Due.throwsIt("behind what is kept", Checks.NO_PLACE, () -> x.kept(15, marks + 451));
        x.give(14, MARK, 9, 0, false);
        due("the last mark changes", x.why(15), 4);
        x.generated(0, 15);
        x.force(0);
        x.give(14, MARK, 9, 1, false);
        due("and the row of what is generated", x.why(0), 5);
    }

    private static void digestOfNothing() {
        Due.told("DIGEST OF a row: h is 17");
        RemakeNeeds2 x = new RemakeNeeds2();
        due("of no longs", x.anew(), 17);
        x.unit();
        due("of one", x.anew(), 3639115966594019635L);
        x.remove(0);
        due("of none again", x.anew(), 17);
    }

    private static void digestOfEdges() {
        Due.told("with each long h becomes (h ^ it) * 0x9E3779B97F4A7C15, then h ^ (h >>> 29).");
        RemakeNeeds2 x = with(3);
        x.give(1, SHAPE, 31, LEAST, true);
        x.give(2, MARK, 0, MOST, false);
        x.make(16);
        due("of 0 0 0 0 0", x.output(0), -3786691770504508668L);
        due("with the least long", x.output(1), 8628037360511680038L);
        due("with the most long", x.output(2), -7303714411064015266L);
    }

    private static void keepsAsThen() {
        Due.told("a UNIT that is made keeps its ROW as it is then.");
        RemakeNeeds2 x = with(3);
        x.way(0, 1);
        x.give(1, CONSTANT, 2, 5, false);
        x.use(0, CONSTANT, 2);
        x.reader(2, true);
        x.generated(0, 2);
        x.force(0);
        long[] then = {0, 1, 1, 1, 1, 2, 1, 5, 0, 1, Checks.digestOf(0, 0, 0, 1, 0)};
        Checks.keptIs("then", x, 0, then);
        x.give(1, CONSTANT, 2, 6, false);
        x.give(1, MARK, 2, 6, false);
        x.give(0, SHAPE, 0, 1, false);
        x.use(0, SHAPE, 9);
        Checks.keptIs("whatever changes", x, 0, then);
        x.remove(1);
        x.remove(2);
        Checks.keptIs("whoever goes", x, 0, then);
        x.force(0);
        Checks.keptIs("now", x, 0, 1, 0, 0, 1, 0, 0, 0, 2, 1, 2, NONE, 0, 0, 9, NONE, 0, 0, 0);
    }

    private static void neededNeverMade() {
        Due.told("It is NEEDED, if it was never MADE");
        RemakeNeeds2 x = with(2);
        due("an empty one", x.why(0), 1);
        due("both", x.needs(), 2);
        x.force(0);
        due("made", x.why(0), 0);
        due("one", x.needs(), 1);
        x.clear();
        x.unit();
        due("new with the same number", x.why(0), 1);
    }

    private static void neededOnlyForAnotherRow() {
        Due.told("or its ROW is another one than that.");
        RemakeNeeds2 x = with(2);
        x.give(0, SHAPE, 1, MOST, false);
        x.use(0, SHAPE, 1);
        x.way(0, 1);
        x.make(16);
        x.give(0, SHAPE, 1, MOST, false);
        due("the same given again", x.why(0), 0);
        x.give(0, SHAPE, 1, LEAST, false);
        due("another", x.why(0), 2);
        x.give(0, SHAPE, 1, MOST, false);
        due("back", x.why(0), 0);
        x.take(0, SHAPE, 1);
        x.give(0, SHAPE, 1, MOST, false);
        due("taken and given", x.why(0), 0);
        x.unuse(0, 0);
        x.use(0, SHAPE, 1);
        due("used again", x.why(0), 0);
        x.unway(0);
        x.way(0, 1);
        due("its way again", x.why(0), 0);
        x.reader(0, true);
        x.reader(0, false);
        due("a reader no more", x.why(0), 0);
        due("none", x.needs(), 0);
        due("nothing to make", x.make(16), 0);
    }

    private static void neededByAnotherReaderAlike() {
        Due.told("the DIGEST OF THE ROW of that READER: another READER with the same ROW");
        RemakeNeeds2 x = with(3);
        x.reader(1, true);
        x.reader(2, true);
        x.generated(0, 1);
        x.make(16);
        x.generated(0, 2);
        due("the row is no other", x.why(0), 0);
        x.give(2, SHAPE, 1, 1, false);
        due("now it is", x.why(0), 5);
    }

    private static void outputOfWhatIsKept() {
        Due.told("OUTPUT: DIGEST OF the ROW that it keeps.");
        RemakeNeeds2 x = with(1);
        x.force(0);
        long empty = x.output(0);
        due("of five zeros", empty, Checks.digestOf(0, 0, 0, 0, 0));
        x.use(0, SHAPE, 31);
        due("not of the row as it is", x.output(0), empty);
        x.force(0);
        due("made again", x.output(0), Checks.digestOf(0, 0, 1, 0, 31, NONE, 0, 0, 0));
    }

    private static void whyOfEachKind() {
        Due.told("WHY a UNIT is NEEDED: 1 .. 5");
        RemakeNeeds2 x = with(3);
        due("1", x.why(0), 1);
        x.way(0, 1);
        x.use(0, SHAPE, 1);
        x.make(16);
        due("0", x.why(0), 0);
        x.use(0, SHAPE, 2);
        due("2", x.why(0), 2);
        x.unuse(0, 1);
        x.give(1, SHAPE, 1, 0, false);
        due("3, a digest of 0", x.why(0), 3);
        x.take(1, SHAPE, 1);
        x.reader(0, true);
        due("4, no marks", x.why(0), 4);
        x.reader(0, false);
        x.reader(2, true);
        x.generated(0, 2);
        due("5", x.why(0), 5);
        x.generated(0, NONE);
        due("0 again", x.why(0), 0);
    }

    /** Unit 0 finds in 1, and is generated by 2. */
    private static void forWhy(RemakeNeeds2 x) {
        for (int u = 0; u < 4; u++) {
            x.unit();
        }
        x.way(0, 1);
        x.use(0, SHAPE, 1);
        x.give(0, CONSTANT, 2, 1, false);
        x.build(0, 2, 3);
        x.give(1, SHAPE, 1, 1, false);
        x.give(1, CONSTANT, 3, 1, false);
        x.reader(2, true);
        x.generated(0, 2);
    }

    private static void whyTheFirstThatFits() {
        Due.told("the first that fits.");
        RemakeNeeds2 x = new RemakeNeeds2();
        forWhy(x);
        x.give(1, MARK, 5, 1, false);
        x.reader(2, false);
        x.reader(0, true);
        due("1 ahead of all", x.why(0), 1);
        x = new RemakeNeeds2();
        forWhy(x);
        x.make(16);
        x.give(3, MARK, 5, 1, false);
        due("5 alone", x.why(0), 5);
        x.generated(0, NONE);
        x.reader(0, true);
        due("4 ahead of 5", x.why(0), 4);
        x.give(1, CONSTANT, 3, 2, false);
        due("3 ahead of 4, by a name", x.why(0), 3);
        x.reader(0, false);
        due("3 ahead of 5, by a name", x.why(0), 3);
        x.give(1, CONSTANT, 3, 1, false);
        x.give(1, SHAPE, 1, 2, false);
        due("3 ahead of 5, by a use", x.why(0), 3);
        x.give(0, CONSTANT, 2, 2, false);
        due("2 ahead of 3, 5, what it gives", x.why(0), 2);
        x.give(0, CONSTANT, 2, 1, false);
        x.way(0, 3);
        due("2 ahead of 3, 5, its way", x.why(0), 2);
        x.unway(0);
        x.way(0, 1);
        x.use(0, SHAPE, 9);
        due("2 ahead of 3, 5, its uses", x.why(0), 2);
    }

    private static void whyHowMany() {
        Due.told("2 what it gives, its WAY or its USES (SORTS, NAMES) are others (also how many)");
        RemakeNeeds2 x = with(3);
        x.give(0, CONSTANT, 1, 0, false);
        x.way(0, 1);
        x.use(0, SHAPE, 0);
        x.make(16);
        x.give(0, CONSTANT, 2, 0, false);
        due("one more thing", x.why(0), 2);
        x.take(0, CONSTANT, 2);
        x.take(0, CONSTANT, 1);
        due("one thing fewer", x.why(0), 2);
        x.give(0, CONSTANT, 1, 0, false);
        due("as it was", x.why(0), 0);
        x.build(0, 1, 0);
        due("one name more", x.why(0), 2);
        x.take(0, CONSTANT, 1);
        x.give(0, CONSTANT, 1, 0, true);
        due("private", x.why(0), 2);
        x.give(0, CONSTANT, 1, 0, false);
        x.way(0, 2);
        due("one more on the way", x.why(0), 2);
        x.unway(0);
        due("nobody on the way", x.why(0), 2);
        x.way(0, 1);
        x.use(0, CONSTANT, 0);
        due("one use more", x.why(0), 2);
        x.unuse(0, 0);
        due("another use", x.why(0), 2);
        x.unuse(0, 0);
        due("no use", x.why(0), 2);
        x.use(0, SHAPE, 0);
        due("as it was again", x.why(0), 0);
    }

    private static void whyUsesInOrder() {
        Due.told("2 .. its USES (SORTS, NAMES) are others: another order");
        RemakeNeeds2 x = with(1);
        x.use(0, SHAPE, 0);
        x.use(0, SHAPE, 1);
        x.make(16);
        x.unuse(0, 0);
        x.use(0, SHAPE, 0);
        due("the other way round", x.why(0), 2);
        x.unuse(0, 0);
        x.use(0, SHAPE, 1);
        due("as they were", x.why(0), 0);
    }

    private static void whyOfTheLastUse() {
        Due.told("2 .. its USES (SORTS, NAMES) are others: the last of twelve");
        RemakeNeeds2 x = with(1);
        for (int n = 0; n < 12; n++) {
            x.use(0, SHAPE, n);
        }
        x.make(16);
        x.unuse(0, 11);
        x.use(0, SHAPE, 31);
        due("another name", x.why(0), 2);
        x.unuse(0, 11);
        x.use(0, CONSTANT, 11);
        due("another sort", x.why(0), 2);
        x.unuse(0, 11);
        due("one fewer", x.why(0), 2);
        x.use(0, SHAPE, 11);
        due("as it was", x.why(0), 0);
    }

    private static void leadsNotToItself() {
        Due.told("(not to itself, if nothing leads back)");
        RemakeNeeds2 x = with(2);
        due("an empty unit", x.leads(0, 0), 0);
        x.use(0, SHAPE, 1);
        due("finds none", x.leads(0, 0), 0);
        x.way(0, 1);
        x.give(1, SHAPE, 1, 1, false);
        due("finds in another", x.leads(0, 1), 1);
        due("nothing leads back", x.leads(0, 0), 0);
        x.way(1, 0);
        x.give(0, CONSTANT, 1, 1, false);
        x.use(1, CONSTANT, 1);
        due("it leads back", x.leads(0, 0) + x.leads(1, 1), 2);
    }

    private static void leadsToItselfByItself() {
        Due.told("A UNIT LEADS to those that are FOUND for its USES, and for NAMES: also itself");
        RemakeNeeds2 x = with(2);
        x.give(0, SHAPE, 1, 1, true);
        due("gives alone", x.leads(0, 0), 0);
        x.use(0, SHAPE, 1);
        due("by a use", x.leads(0, 0), 1);
        x.give(1, CONSTANT, 2, 1, true);
        x.build(1, 2, 2);
        due("by a name", x.leads(1, 1), 1);
        due("both are alone", x.count(3), 0);
    }

    private static void leadsOnAndOn() {
        Due.told("and to where these lead");
        RemakeNeeds2 x = with(16);
        for (int u = 0; u < 16; u++) {
            x.give(u, SHAPE, u, 1, false);
        }
        for (int u = 0; u < 15; u++) {
            x.way(u, u + 1);
            x.use(u, SHAPE, u + 1);
        }
        due("from the first to the last", x.leads(0, 15), 1);
        due("not back", x.leads(15, 0), 0);
        due("not to itself", x.leads(7, 7), 0);
        x.unuse(8, 0);
        due("one step fewer", x.leads(0, 15), 0);
        due("as far as it goes", x.leads(0, 8), 1);
    }

    private static void leadsByFindingAlone() {
        Due.told("A UNIT LEADS to those that are FOUND");
        RemakeNeeds2 x = with(3);
        x.way(0, 1);
        x.give(1, SHAPE, 1, 1, false);
        due("by its way alone it does not", x.leads(0, 1), 0);
        x.use(0, SHAPE, 1);
        due("by a use", x.leads(0, 1), 1);
        x.give(1, SHAPE, 1, 1, true);
        due("a private one is not found", x.leads(0, 1), 0);
        x.reader(2, true);
        x.give(1, MARK, 1, 1, false);
        due("a mark that is read leads nowhere", x.leads(2, 1), 0);
    }

    private static void leadsToTheReader() {
        Due.told("to the READER that it is GENERATED by");
        RemakeNeeds2 x = with(3);
        x.reader(2, true);
        due("not yet", x.leads(0, 2), 0);
        x.generated(0, 2);
        due("to it", x.leads(0, 2), 1);
        due("not back", x.leads(2, 0), 0);
        x.give(1, SHAPE, 1, 1, false);
        x.way(2, 1);
        x.use(2, SHAPE, 1);
        due("and on", x.leads(0, 1), 1);
        x.generated(0, NONE);
        due("no more", x.leads(0, 2) + x.leads(0, 1), 0);
    }

    /** Each unit finds in the next, the last in the first. */
    private static RemakeNeeds2 ringOfSixteen() {
        RemakeNeeds2 x = with(16);
        for (int u = 0; u < 16; u++) {
            x.give(u, SHAPE, u, 1, false);
            x.way(u, (u + 1) % 16);
            x.use(u, SHAPE, (u + 1) % 16);
        }
        return x;
    }

    private static void ringOfAll() {
        Due.told("A RING: UNITS that lead to one another");
        RemakeNeeds2 x = ringOfSixteen();
        due("one ring", x.count(2) * 10 + x.count(3), 11);
        due("of all", x.ring(0) + x.ring(15) + x.ring(7), 0);
        due("each leads to each", x.leads(7, 7) + x.leads(15, 14) + x.leads(0, 15), 3);
        Checks.orderIs("by numbers", x, 0, 1, 2, 3, 4, 5, 6, 7, 8, 9, 10, 11, 12, 13, 14, 15);
        x.remove(9);
        due("open: alone each", x.count(2) * 10 + x.count(3), 150);
        Checks.orderIs("backwards from there", x, 8, 7, 6, 5, 4, 3, 2, 1, 0, 15, 14, 13, 12, 11, 10);
    }

    private static void ringOfOne() {
        Due.told("one alone else.");
        RemakeNeeds2 x = with(3);
        x.give(1, SHAPE, 1, 1, false);
        x.use(1, SHAPE, 1);
        due("three", x.count(2), 3);
        due("none of more", x.count(3), 0);
        due("each its own", x.ring(0) * 100 + x.ring(1) * 10 + x.ring(2), 12);
        x.way(0, 1);
        x.use(0, SHAPE, 1);
        due("one way is no ring", x.count(2) * 10 + x.count(3), 30);
    }

    private static void orderOfNone() {
        Due.told("THE ORDER: all UNITS that are there");
        RemakeNeeds2 x = new RemakeNeeds2();
        Checks.orderIs("none", x);
        x.unit();
        x.unit();
        Checks.orderIs("two", x, 0, 1);
        x.remove(0);
        Checks.orderIs("one", x, 1);
        x.remove(1);
        Checks.orderIs("none again", x);
    }

    private static void orderByTheLeast() {
        Due.told("the one with the least UNIT");
        RemakeNeeds2 x = with(6);
        pair(x, 0, 5);
        Checks.orderIs("a ring with the least", x, 0, 5, 1, 2, 3, 4);
        pair(x, 1, 4);
        Checks.orderIs("and the next", x, 0, 5, 1, 4, 2, 3);
        x.give(2, MARK, 1, 1, false);
        x.give(2, SHAPE, 20, 1, false);
        x.way(5, 2);
        x.use(5, SHAPE, 20);
        Checks.orderIs("held up by one of it", x, 1, 4, 2, 0, 5, 3);
        due("rings", x.count(2) * 10 + x.count(3), 42);
    }

    /** Two units that use a shape of one another. */
    private static void pair(RemakeNeeds2 x, int one, int other) {
        x.give(one, SHAPE, one, 1, false);
        x.give(other, SHAPE, other, 1, false);
        x.way(one, other);
        x.way(other, one);
        x.use(one, SHAPE, other);
        x.use(other, SHAPE, one);
    }

    private static void orderBackwards() {
        Due.told("all of whose UNITS lead to nothing but to themselves and to what came already");
        RemakeNeeds2 x = with(16);
        for (int u = 15; u > 0; u--) {
            x.give(u, CONSTANT, u, 1, false);
            x.way(u - 1, u);
            x.use(u - 1, CONSTANT, u);
        }
        Checks.orderIs("the last comes first", x, 15, 14, 13, 12, 11, 10, 9, 8, 7, 6, 5, 4, 3, 2, 1, 0);
        due("its ring", x.ring(15), 0);
        due("the first's ring", x.ring(0), 15);
        due("sixteen", x.count(2), 16);
        due("made by that order", x.make(1), 1);
        due("the last is made", x.why(15), 0);
        due("the first is not", x.why(0), 1);
    }

    private static void orderInARing() {
        Due.told("in a RING by numbers.");
        RemakeNeeds2 x = with(4);
        pair(x, 3, 1);
        pair(x, 3, 0);
        Checks.orderIs("three, then the rest", x, 0, 1, 3, 2);
    }

    private static void ringsFromZero() {
        Due.told("RINGS are numbered so, from 0 on.");
        RemakeNeeds2 x = with(4);
        pair(x, 1, 3);
        due("zero", x.ring(0), 0);
        due("one", x.ring(1), 1);
        due("one too", x.ring(3), 1);
        due("two", x.ring(2), 2);
        x.remove(0);
        due("zero now", x.ring(1) + x.ring(3), 0);
        due("one now", x.ring(2), 1);
    }

    private static void chainOfNothing() {
        Due.told("THE CHAIN of a CONSTANT of a UNIT: from it on (not itself");
        RemakeNeeds2 x = with(2);
        x.give(0, CONSTANT, 1, 1, false);
        Checks.chainIs("built of nothing", x, 0, 1);
        x.build(0, 1, 2);
        Checks.chainIs("built of what is not found", x, 0, 1);
        x.give(1, CONSTANT, 2, 1, true);
        x.way(0, 1);
        Checks.chainIs("of what is private", x, 0, 1);
        x.give(1, CONSTANT, 2, 1, false);
        Checks.chainIs("of one", x, 0, 1, 1, 2);
    }

    private static void chainComesToItself() {
        Due.told("unless it is come to again");
        RemakeNeeds2 x = with(1);
        x.give(0, CONSTANT, 1, 1, false);
        x.give(0, CONSTANT, 2, 1, false);
        x.give(0, CONSTANT, 3, 1, false);
        x.build(0, 1, 2);
        Checks.chainIs("not yet", x, 0, 1, 0, 2);
        x.build(0, 2, 1);
        Checks.chainIs("itself at the end", x, 0, 1, 0, 2, 0, 1);
        x.build(0, 2, 3);
        x.build(0, 1, 3);
        Checks.chainIs("itself before the end", x, 0, 1, 0, 2, 0, 1, 0, 3);
        Checks.chainIs("from the other", x, 0, 2, 0, 1, 0, 2, 0, 3);
        x.build(0, 3, 3);
        Checks.chainIs("of itself", x, 0, 3, 0, 3);
    }

    private static void chainNotIntoItselfAgain() {
        Due.told("(what was met is not gone into again): itself");
        RemakeNeeds2 x = with(1);
        for (int n = 1; n <= 5; n++) {
            x.give(0, CONSTANT, n, 1, false);
        }
        x.build(0, 1, 2);
        x.build(0, 1, 5);
        x.build(0, 2, 3);
        x.build(0, 2, 4);
        x.build(0, 3, 1);
        Checks.chainIs("first what is behind the others", x, 0, 1, 0, 2, 0, 3, 0, 1, 0, 4, 0, 5);
        Checks.chainIs("from the next", x, 0, 2, 0, 3, 0, 1, 0, 2, 0, 5, 0, 4);
    }

    private static void chainEachOnce() {
        Due.told("each once (what was met is not gone into again).");
        RemakeNeeds2 x = with(1);
        for (int n = 1; n <= 5; n++) {
            x.give(0, CONSTANT, n, 1, false);
        }
        x.build(0, 1, 2);
        x.build(0, 1, 2);
        x.build(0, 1, 3);
        x.build(0, 2, 4);
        x.build(0, 3, 4);
        x.build(0, 3, 2);
        x.build(0, 3, 5);
        x.build(0, 4, 5);
        Checks.chainIs("four", x, 0, 1, 0, 2, 0, 4, 0, 5, 0, 3);
        x.build(0, 1, 1);
        due("three at most", x.build(0, 1, 1), FULL);
        x.build(0, 4, 1);
        x.build(0, 4, 1);
        Checks.chainIs("itself once, too", x, 0, 1, 0, 2, 0, 4, 0, 5, 0, 1, 0, 3);
    }

    private static void chainBehindBeforeNext() {
        Due.told("and behind each its own likewise before the next NAME");
        RemakeNeeds2 x = with(2);
        x.way(0, 1);
        x.give(0, CONSTANT, 0, 1, false);
        x.build(0, 0, 5);
        x.build(0, 0, 31);
        x.build(0, 0, 2);
        x.give(1, CONSTANT, 5, 1, false);
        x.build(1, 5, 2);
        x.give(1, CONSTANT, 2, 1, false);
        x.build(1, 2, 3);
        x.give(1, CONSTANT, 3, 1, true);
        x.give(0, CONSTANT, 31, 1, false);
        Checks.chainIs("deep before wide", x, 0, 0, 1, 5, 1, 2, 1, 3, 0, 31);
        x.give(0, CONSTANT, 2, 1, false);
        Checks.chainIs("two of one name, each in its unit", x, 0, 0, 1, 5, 1, 2, 1, 3, 0, 31, 0, 2);
    }

    private static void chainLongest() {
        Due.told("THE CHAIN .. each once: all 160 CONSTANTS");
        RemakeNeeds2 x = with(16);
        for (int u = 0; u < 16; u++) {
            int low = u % 2 * 10;
            for (int n = 0; n < 10; n++) {
                x.give(u, CONSTANT, low + n, LEAST + 1, false);
                x.build(u, low + n, (low + n + 1) % 20);
            }
            x.way(u, (u + 1) % 16);
        }
        for (int i = 0; i < 159; i += 13) {
            int at = i + 1;
            due("unit " + i, x.chain(0, 0, i, 0), at / 10);
            due("name " + i, x.chain(0, 0, i, 1), at % 20);
        }
        due("itself comes last", x.chain(0, 0, 159, 0) + x.chain(0, 0, 159, 1), 0);
        due("no more", x.chain(0, 0, 160, 0), NONE);
        due("round", x.round(8, 5), 1);
        due("no value", x.value(8, 5), 0);
        x.take(15, CONSTANT, 19);
        due("not round without the last", x.round(0, 0), 0);
        due("a sum of 159 that wraps", x.value(0, 0), 159 * (LEAST + 1));
        due("from the middle", x.value(8, 5), 74 * (LEAST + 1));
        due("the chain is one shorter", x.chain(0, 0, 157, 1), 18);
        due("and ends there", x.chain(0, 0, 158, 1), NONE);
        due("it is not there", x.round(15, 19), UNKNOWN);
    }
}
