/** One test or more for each promise: ordinary inputs, the edges that the document names, wrong inputs. */
public final class PromisesTest {
    private static final int UNKNOWN = -1, OUTSIDE = -2, STATE = -3, FULL = -4, NONE = -5;
    private static final int SHAPE = 0, CONSTANT = 1, MARK = 2;
    private static final Class<?> NO_PLACE = Checks.NO_PLACE;

    public static void main(String[] args) {
        newObject();
        unit();
        give();
        take();
        build();
        way();
        unway();
        use();
        unuse();
        reader();
        generated();
        remove();
        found();
        value();
        valueWraps();
        round();
        chain();
        chainOfAll();
        missing();
        sizeAndRow();
        rowOfFinds();
        rowOfMarks();
        rowOfGenerated();
        longestRow();
        kept();
        why();
        whyByFirst();
        needs();
        make();
        force();
        output();
        anew();
        coarse();
        order();
        ring();
        leads();
        count();
        clear();
        Due.finish();
    }

    private static void due(String what, long got, long want) {
        Due.due(what, got, want);
    }

    private static RemakeNeeds2 with(int units) {
        return Checks.with(units);
    }

    private static long digestOf(long... row) {
        return Checks.digestOf(row);
    }

    private static void rowIs(String what, RemakeNeeds2 x, int unit, long... want) {
        Checks.rowIs(what, x, unit, want);
    }

    private static void chainIs(String what, RemakeNeeds2 x, int unit, int name, int... want) {
        Checks.chainIs(what, x, unit, name, want);
    }

    private static void orderIs(String what, RemakeNeeds2 x, int... want) {
        Checks.orderIs(what, x, want);
    }

    /** Promise 1. */
    private static void newObject() {
        RemakeNeeds2 x = new RemakeNeeds2();
        for (int what = 0; what < 5; what++) {
            due("1 count " + what, x.count(what), 0);
        }
        due("1 needs", x.needs(), 0);
        due("1 make", x.make(16), 0);
        due("1 anew", x.anew(), 17);
        due("1 coarse", x.coarse(), 0);
        due("1 size", x.size(0), UNKNOWN);
        due("1 clear", x.clear(), 0);
        Due.throwsIt("1 order", NO_PLACE, () -> x.order(0));
    }

    /** Promise 2. */
    private static void unit() {
        RemakeNeeds2 x = with(16);
        due("2 full", x.unit(), FULL);
        due("2 remove", x.remove(3), 15);
        due("2 numbers do not come again", x.unit(), FULL);
        due("2 ever", x.count(1), 16);
        RemakeNeeds2 other = new RemakeNeeds2();
        due("2 objects are apart", other.unit(), 0);
    }

    /** Promise 3. */
    private static void give() {
        RemakeNeeds2 x = with(2);
        due("3 new", x.give(0, CONSTANT, 5, 7, false), 1);
        due("3 built", x.build(0, 5, 6), 1);
        due("3 again", x.give(0, CONSTANT, 5, 8, true), 0);
        rowIs("3 in place, built stays", x, 0, 1, 1, 5, 8, 1, 1, 6, 0, 0, NONE, 0, 0, 0);
        due("3 unit -1", x.give(-1, 0, 0, 0, false), UNKNOWN);
        due("3 unit 2", x.give(2, 9, 0, 0, false), UNKNOWN);
        due("3 sort -1", x.give(0, -1, 0, 0, false), OUTSIDE);
        due("3 sort 3", x.give(0, 3, 0, 0, false), OUTSIDE);
        due("3 name -1", x.give(0, 0, -1, 0, false), OUTSIDE);
        due("3 name 32", x.give(0, 0, 32, 0, false), OUTSIDE);
        for (int n = 0; n < 9; n++) {
            due("3 more", x.give(0, n % 3, 31 - n, n, false), 1);
        }
        due("3 full", x.give(0, SHAPE, 1, 1, false), FULL);
        due("3 outside ahead of full", x.give(0, SHAPE, 32, 1, false), OUTSIDE);
        due("3 in place when full", x.give(0, CONSTANT, 5, 9, false), 0);
        due("3 the other has room", x.give(1, SHAPE, 1, 1, false), 1);
        due("3 nothing changed", x.row(0, 0), 10);
    }

    /** Promise 4. */
    private static void take() {
        RemakeNeeds2 x = with(1);
        x.give(0, CONSTANT, 1, 10, false);
        x.give(0, SHAPE, 1, 20, false);
        x.give(0, MARK, 1, 30, false);
        x.build(0, 1, 2);
        due("4 taken", x.take(0, CONSTANT, 1), 1);
        rowIs("4 the others stay", x, 0, 2, 0, 1, 20, 0, 0, 2, 1, 30, 0, 0, 0, 0, 0, 0);
        due("4 twice", x.take(0, CONSTANT, 1), UNKNOWN);
        due("4 again", x.give(0, CONSTANT, 1, 10, false), 1);
        due("4 what it was built of went with it", x.missing(0), 0);
        due("4 no unit", x.take(1, SHAPE, 1), UNKNOWN);
        due("4 no unit ahead of sort", x.take(1, 3, 1), UNKNOWN);
        due("4 sort", x.take(0, 3, 1), OUTSIDE);
        due("4 sort -1", x.take(0, -1, 1), OUTSIDE);
        due("4 name", x.take(0, SHAPE, 32), OUTSIDE);
        due("4 name -1", x.take(0, SHAPE, -1), OUTSIDE);
        due("4 not given", x.take(0, SHAPE, 2), UNKNOWN);
        for (int n = 10; n < 17; n++) {
            x.give(0, SHAPE, n, n, false);
        }
        due("4 full", x.give(0, MARK, 9, 1, false), FULL);
        due("4 taken", x.take(0, SHAPE, 10), 1);
        due("4 room again", x.give(0, MARK, 9, 1, false), 1);
    }

    /** Promise 5. */
    private static void build() {
        RemakeNeeds2 x = with(2);
        x.give(0, CONSTANT, 3, 1, false);
        x.give(0, SHAPE, 4, 1, false);
        due("5 one", x.build(0, 3, 9), 1);
        due("5 the same", x.build(0, 3, 9), 2);
        due("5 itself", x.build(0, 3, 3), 3);
        due("5 full", x.build(0, 3, 0), FULL);
        due("5 a shape is none", x.build(0, 4, 0), STATE);
        due("5 no such", x.build(0, 5, 0), STATE);
        due("5 not its own", x.build(1, 3, 0), STATE);
        due("5 no unit", x.build(2, 3, 0), UNKNOWN);
        due("5 no unit, outside", x.build(-1, 32, 0), UNKNOWN);
        due("5 name 32", x.build(0, 32, 0), OUTSIDE);
        due("5 name -1", x.build(0, -1, 0), OUTSIDE);
        due("5 of 32, full", x.build(0, 3, 32), OUTSIDE);
        due("5 of -1, none such", x.build(0, 5, -1), OUTSIDE);
        rowIs("5 in order", x, 0, 2, 0, 4, 1, 0, 0, 1, 3, 1, 0, 3, 9, 9, 3, 0, 0, NONE, 0, NONE, 0, 0, 0, 0, 0);
    }

    /** Promise 6. */
    private static void way() {
        RemakeNeeds2 x = with(9);
        due("6 itself", x.way(0, 0), STATE);
        for (int u = 1; u <= 6; u++) {
            due("6 more", x.way(0, 9 - u), u);
        }
        due("6 full", x.way(0, 1), FULL);
        due("6 there, full", x.way(0, 8), STATE);
        due("6 itself, full", x.way(0, 0), STATE);
        due("6 no unit", x.way(9, 0), UNKNOWN);
        due("6 no other", x.way(0, 9), UNKNOWN);
        due("6 no other -1", x.way(0, -1), UNKNOWN);
        due("6 neither", x.way(20, 20), UNKNOWN);
        rowIs("6 in order", x, 0, 0, 6, 8, 7, 6, 5, 4, 3, 0, 0, 0);
        due("6 the other way round", x.way(8, 0), 1);
    }

    /** Promise 7. */
    private static void unway() {
        RemakeNeeds2 x = with(3);
        due("7 empty", x.unway(0), 0);
        x.way(0, 1);
        x.way(0, 2);
        due("7 two", x.unway(0), 2);
        due("7 none left", x.unway(0), 0);
        due("7 may come again", x.way(0, 2), 1);
        due("7 no unit", x.unway(3), UNKNOWN);
        due("7 no unit -1", x.unway(-1), UNKNOWN);
    }

    /** Promise 8. */
    private static void use() {
        RemakeNeeds2 x = with(1);
        due("8 shape", x.use(0, SHAPE, 31), 1);
        due("8 constant of that name", x.use(0, CONSTANT, 31), 2);
        due("8 there", x.use(0, SHAPE, 31), STATE);
        due("8 mark", x.use(0, MARK, 1), OUTSIDE);
        due("8 sort -1", x.use(0, -1, 1), OUTSIDE);
        due("8 name 32", x.use(0, SHAPE, 32), OUTSIDE);
        due("8 name -1", x.use(0, SHAPE, -1), OUTSIDE);
        due("8 no unit", x.use(1, MARK, 1), UNKNOWN);
        for (int n = 0; n < 10; n++) {
            due("8 more", x.use(0, SHAPE, n), n + 3);
        }
        due("8 full", x.use(0, SHAPE, 10), FULL);
        due("8 there, full", x.use(0, SHAPE, 9), STATE);
        due("8 missing", x.missing(0), 12);
    }

    /** Promise 9. */
    private static void unuse() {
        RemakeNeeds2 x = with(1);
        due("9 none", x.unuse(0, 0), UNKNOWN);
        x.use(0, SHAPE, 1);
        x.use(0, CONSTANT, 2);
        x.use(0, SHAPE, 3);
        due("9 -1", x.unuse(0, -1), UNKNOWN);
        due("9 3", x.unuse(0, 3), UNKNOWN);
        due("9 1", x.unuse(0, 1), 2);
        rowIs("9 one down", x, 0, 0, 0, 2, 0, 1, NONE, 0, 0, 3, NONE, 0, 0, 0);
        due("9 2 is gone", x.unuse(0, 2), UNKNOWN);
        due("9 again, at the end", x.use(0, CONSTANT, 2), 3);
        due("9 0", x.unuse(0, 0), 2);
        rowIs("9 one down each", x, 0, 0, 0, 2, 0, 3, NONE, 0, 1, 2, NONE, 0, 0, 0);
        due("9 no unit", x.unuse(1, 0), UNKNOWN);
    }

    /** Promise 10. */
    private static void reader() {
        RemakeNeeds2 x = with(4);
        due("10 off", x.reader(0, false), 0);
        due("10 on", x.reader(0, true), 0);
        due("10 still on", x.reader(0, true), 1);
        x.reader(2, true);
        x.generated(1, 0);
        x.generated(3, 2);
        due("10 on keeps what it generates", x.reader(0, true), 1);
        due("10 that stays", x.leads(1, 0), 1);
        due("10 generated on", x.reader(1, true), STATE);
        due("10 generated off", x.reader(1, false), STATE);
        due("10 off", x.reader(0, false), 1);
        due("10 generated no more", x.leads(1, 0), 0);
        due("10 of another still", x.leads(3, 2), 1);
        due("10 is none now", x.generated(1, 0), STATE);
        due("10 may read now", x.reader(1, true), 0);
        due("10 no unit", x.reader(4, true), UNKNOWN);
        due("10 no unit -1", x.reader(-1, false), UNKNOWN);
    }

    /** Promise 11. */
    private static void generated() {
        RemakeNeeds2 x = with(4);
        x.reader(0, true);
        x.reader(2, true);
        due("11 by one", x.generated(1, 0), 1);
        due("11 by another", x.generated(1, 2), 1);
        due("11 leads", x.leads(1, 2) * 10 + x.leads(1, 0), 10);
        due("11 by none", x.generated(1, NONE), 1);
        due("11 leads no more", x.leads(1, 2), 0);
        due("11 by none again", x.generated(1, NONE), 1);
        due("11 by no reader", x.generated(1, 3), STATE);
        due("11 a reader", x.generated(0, 2), STATE);
        due("11 a reader by none", x.generated(0, NONE), STATE);
        due("11 by itself", x.generated(1, 1), STATE);
        due("11 a reader by itself", x.generated(0, 0), STATE);
        due("11 no unit", x.generated(4, 0), UNKNOWN);
        due("11 no unit by none", x.generated(4, NONE), UNKNOWN);
        due("11 by no unit", x.generated(1, 4), UNKNOWN);
        due("11 by -1", x.generated(1, -1), UNKNOWN);
        due("11 by no unit, a reader", x.generated(0, 4), UNKNOWN);
    }

    /** Promise 12. */
    private static void remove() {
        RemakeNeeds2 x = with(5);
        x.way(0, 1);
        x.way(0, 2);
        x.way(0, 3);
        x.way(4, 2);
        x.reader(2, true);
        x.generated(4, 2);
        x.give(2, SHAPE, 1, 1, false);
        x.use(0, SHAPE, 1);
        due("12 gone", x.remove(2), 4);
        rowIs("12 from the way", x, 0, 0, 2, 1, 3, 1, 0, 1, NONE, 0, 0, 0);
        rowIs("12 generated no more", x, 4, 0, 0, 0, 0, 0);
        due("12 so it may read", x.reader(4, true), 0);
        due("12 twice", x.remove(2), UNKNOWN);
        due("12 no unit", x.remove(5), UNKNOWN);
        due("12 no unit -1", x.remove(-1), UNKNOWN);
        due("12 all calls know", x.give(2, 0, 0, 0, false) + x.way(0, 2) + x.size(2) + x.leads(0, 2), -4);
        due("12 the next number", x.unit(), 5);
    }

    /** Promise 13. */
    private static void found() {
        RemakeNeeds2 x = with(4);
        for (int sort = 0; sort < 3; sort++) {
            x.give(1, sort, 7, 1, true);
            x.give(2, sort, 7, 2, false);
            x.give(3, sort, 7, 3, false);
        }
        x.way(0, 1);
        x.way(0, 3);
        x.way(0, 2);
        for (int sort = 0; sort < 3; sort++) {
            due("13 the first that is not private", x.found(0, sort, 7), 3);
            due("13 private in itself", x.found(1, sort, 7), 1);
            due("13 sorts are apart", x.found(0, sort, 8), NONE);
        }
        x.give(0, SHAPE, 7, 0, true);
        due("13 itself first", x.found(0, SHAPE, 7), 0);
        due("13 other sorts", x.found(0, MARK, 7), 3);
        x.give(3, MARK, 7, 3, true);
        due("13 over private ones", x.found(0, MARK, 7), 2);
        x.unway(0);
        x.way(1, 0);
        x.way(0, 2);
        x.give(2, MARK, 9, 1, false);
        due("13 ways of ways do not count", x.found(1, MARK, 9), NONE);
        due("13 sort", x.found(0, 3, 0), OUTSIDE);
        due("13 sort -1", x.found(0, -1, 0), OUTSIDE);
        due("13 name", x.found(0, 0, 32), OUTSIDE);
        due("13 name -1", x.found(0, 0, -1), OUTSIDE);
        due("13 no unit", x.found(4, 3, 0), UNKNOWN);
    }

    /** Promise 14. */
    private static void value() {
        RemakeNeeds2 x = with(3);
        x.give(0, CONSTANT, 1, 5, false);
        x.build(0, 1, 2);
        x.build(0, 1, 2);
        x.build(0, 1, 9);
        x.way(0, 1);
        x.give(1, CONSTANT, 2, 10, false);
        x.build(1, 2, 3);
        x.give(1, CONSTANT, 3, 100, true);
        x.give(0, CONSTANT, 3, 1000, false);
        due("14 one for each, found from where it is", x.value(0, 1), 5 + 2 * 110);
        due("14 private in itself", x.value(1, 3), 100);
        due("14 a shape is none", x.give(0, SHAPE, 7, 3, false) + x.value(0, 7), 1);
        due("14 found is not given", x.value(0, 2), 0);
        due("14 name 32", x.value(0, 32), 0);
        due("14 name -1", x.value(0, -1), 0);
        due("14 no unit", x.value(3, 1), 0);
        x.build(1, 3, 3);
        due("14 round", x.value(1, 3), 0);
        due("14 leads to round", x.value(1, 2), 0);
        due("14 leads there by two steps", x.value(0, 1), 0);
        due("14 not touched", x.value(0, 3), 1000);
    }

    private static void valueWraps() {
        RemakeNeeds2 x = with(1);
        x.give(0, CONSTANT, 1, Long.MAX_VALUE, false);
        x.give(0, CONSTANT, 2, 1, false);
        x.build(0, 2, 1);
        due("14 wraps", x.value(0, 2), Long.MIN_VALUE);
        for (int n = 3; n < 11; n++) {
            x.give(0, CONSTANT, n, n, false);
            for (int i = 0; i < 3; i++) {
                x.build(0, n, n - 1);
            }
        }
        long want = Long.MIN_VALUE;
        for (int n = 3; n < 11; n++) {
            want = n + 3 * want;
        }
        due("14 through a chain", x.value(0, 10), want);
    }

    /** Promise 15. */
    private static void round() {
        RemakeNeeds2 x = with(2);
        for (int n = 0; n < 5; n++) {
            x.give(0, CONSTANT, n, n + 1, false);
        }
        x.build(0, 0, 1);
        x.build(0, 1, 2);
        x.build(0, 2, 1);
        x.build(0, 3, 4);
        x.build(0, 3, 4);
        due("15 leads to one", x.round(0, 0), 1);
        due("15 in the round", x.round(0, 1) + x.round(0, 2), 2);
        due("15 twice the same is not round", x.round(0, 3), 0);
        due("15 built of nothing", x.round(0, 4), 0);
        due("15 value beside a round", x.value(0, 3), 4 + 2 * 5);
        x.build(0, 4, 4);
        due("15 itself", x.round(0, 4), 1);
        due("15 gives none such", x.round(0, 5), UNKNOWN);
        due("15 the other gives none", x.round(1, 0), UNKNOWN);
        due("15 no unit", x.round(2, 0), UNKNOWN);
        due("15 name 32", x.round(0, 32), UNKNOWN);
        due("15 name -1", x.round(0, -1), UNKNOWN);
        x.take(0, CONSTANT, 2);
        due("15 no more", x.round(0, 0) + x.round(0, 1), 0);
        x.build(0, 1, 0);
        due("15 the long way", x.round(0, 0) + x.round(0, 1), 2);
    }

    /** Promise 16. */
    private static void chain() {
        RemakeNeeds2 x = with(2);
        for (int n = 0; n < 7; n++) {
            x.give(n % 2, CONSTANT, n, n, false);
        }
        x.way(0, 1);
        x.way(1, 0);
        chainIs("16 nothing", x, 0, 0);
        x.build(0, 0, 1);
        x.build(0, 0, 20);
        x.build(0, 0, 2);
        x.build(1, 1, 3);
        x.build(1, 1, 4);
        x.build(0, 2, 5);
        x.build(1, 3, 6);
        chainIs("16 each with its own behind it", x, 0, 0, 1, 1, 1, 3, 0, 6, 0, 4, 0, 2, 1, 5);
        x.build(1, 3, 0);
        x.build(1, 5, 6);
        chainIs("16 itself is met once and not gone into", x, 0, 0, 1, 1, 1, 3, 0, 6, 0, 0, 0, 4, 0, 2, 1, 5);
        due("16 -1", x.chain(0, 0, -1, 0), NONE);
        due("16 far behind", x.chain(0, 0, Integer.MAX_VALUE, 1), NONE);
        due("16 what 2", x.chain(0, 0, 0, 2), OUTSIDE);
        due("16 what -1, too many", x.chain(0, 0, 99, -1), OUTSIDE);
        due("16 not its own", x.chain(0, 1, 0, 0), UNKNOWN);
        due("16 unknown ahead of what", x.chain(0, 9, 0, 9), UNKNOWN);
        due("16 no unit", x.chain(2, 0, 0, 0), UNKNOWN);
        due("16 name 32", x.chain(0, 32, 0, 0), UNKNOWN);
        due("16 name -1", x.chain(0, -1, 0, 0), UNKNOWN);
        RemakeNeeds2 y = with(1);
        y.give(0, CONSTANT, 1, 1, false);
        y.build(0, 1, 1);
        chainIs("16 itself", y, 0, 1, 0, 1);
    }

    /** The longest chain there is: ten constants in each of sixteen units. */
    private static void chainOfAll() {
        RemakeNeeds2 x = with(16);
        for (int u = 0; u < 16; u++) {
            int low = u % 2 * 10;
            for (int n = 0; n < 10; n++) {
                x.give(u, CONSTANT, low + n, 1, false);
                x.build(u, low + n, (low + n + 1) % 20);
            }
            if (u < 15) {
                x.way(u, u + 1);
            }
        }
        due("16 last of all", x.chain(0, 0, 158, 0) * 100 + x.chain(0, 0, 158, 1), 1519);
        due("16 no more", x.chain(0, 0, 159, 0), NONE);
        due("14 through all", x.value(0, 0), 160);
        due("15 through all", x.round(0, 0), 0);
        x.way(15, 0);
        due("16 itself behind all", x.chain(0, 0, 159, 0) * 100 + x.chain(0, 0, 159, 1), 0);
        due("16 no more again", x.chain(0, 0, 160, 0), NONE);
        due("15 round through all", x.round(7, 13), 1);
        due("31 one ring of all", x.count(2) * 10 + x.count(3), 11);
    }

    /** Promise 17. */
    private static void missing() {
        RemakeNeeds2 x = with(2);
        due("17 none", x.missing(0), 0);
        x.give(0, CONSTANT, 1, 1, false);
        x.build(0, 1, 5);
        x.build(0, 1, 5);
        x.build(0, 1, 1);
        x.use(0, CONSTANT, 5);
        x.use(0, SHAPE, 5);
        due("17 each one", x.missing(0), 4);
        x.give(1, CONSTANT, 5, 1, true);
        x.way(0, 1);
        due("17 private", x.missing(0), 4);
        x.give(1, CONSTANT, 5, 1, false);
        due("17 found", x.missing(0), 1);
        x.unuse(0, 1);
        due("17 all found", x.missing(0), 0);
        due("17 no unit", x.missing(2), UNKNOWN);
        due("17 no unit -1", x.missing(-1), UNKNOWN);
    }

    /** Promises 18 and 19. */
    private static void sizeAndRow() {
        RemakeNeeds2 x = with(2);
        rowIs("19 an empty unit", x, 0, 0, 0, 0, 0, 0);
        x.give(0, MARK, 31, -3, false);
        x.give(0, CONSTANT, 2, 22, false);
        x.give(0, SHAPE, 9, Long.MIN_VALUE, true);
        x.give(0, CONSTANT, 1, 11, true);
        rowIs("19 by sorts, then by names", x, 0, 4, 0, 9, Long.MIN_VALUE, 1, 0, 1, 1, 11, 1, 0, 1, 2, 22, 0, 0,
                2, 31, -3, 0, 0, 0, 0, 0, 0);
        due("18 no unit", x.size(2), UNKNOWN);
        due("18 no unit -1", x.size(-1), UNKNOWN);
        due("19 no unit", x.row(2, 0), 0);
        due("19 no unit -1", x.row(-1, -1), 0);
        Due.throwsIt("19 -1", NO_PLACE, () -> x.row(0, -1));
        Due.throwsIt("19 size", NO_PLACE, () -> x.row(0, 25));
        Due.throwsIt("19 far", NO_PLACE, () -> x.row(1, Integer.MAX_VALUE));
    }

    private static void rowOfFinds() {
        RemakeNeeds2 x = with(3);
        x.give(0, CONSTANT, 2, 3, false);
        x.build(0, 2, 4);
        x.build(0, 2, 30);
        x.give(0, CONSTANT, 1, 5, false);
        x.build(0, 1, 2);
        x.give(1, CONSTANT, 4, 40, false);
        x.give(1, SHAPE, 4, 99, false);
        x.way(0, 2);
        x.way(0, 1);
        x.use(0, SHAPE, 4);
        x.use(0, CONSTANT, 1);
        x.use(0, CONSTANT, 29);
        x.use(0, SHAPE, 28);
        rowIs("19 finds", x, 0, 2, 1, 1, 5, 0, 1, 2, 1, 2, 3, 0, 2, 4, 30, 2, 2, 1,
                4, 0, 4, 1, 99, 1, 1, 0, 48, 1, 29, NONE, 0, 0, 28, NONE, 0,
                0, 43, 1, 40, NONE, 0, 0, 0);
        x.build(1, 4, 4);
        due("19 what leads to a round one has no value", x.row(0, 25), 0);
        due("19 the round one is found", x.row(0, 36), 1);
        due("19 and has no value", x.row(0, 37), 0);
    }

    private static void rowOfMarks() {
        RemakeNeeds2 x = with(4);
        x.reader(1, true);
        rowIs("19 no marks", x, 1, 0, 0, 0, 1, 0);
        x.give(3, MARK, 5, 35, true);
        x.give(3, MARK, 2, 32, false);
        x.give(0, MARK, 9, 9, false);
        x.give(0, SHAPE, 1, 1, false);
        x.give(2, MARK, 1, 1, false);
        x.give(1, MARK, 4, 14, false);
        x.remove(2);
        rowIs("19 marks of all that are there", x, 1, 1, 2, 4, 14, 0, 0, 0, 0,
                1, 0, 9, 9, 1, 4, 14, 3, 2, 32, 3, 5, 35, 0);
        due("18 no reader", x.size(3), 15);
    }

    private static void rowOfGenerated() {
        RemakeNeeds2 x = with(3);
        x.reader(2, true);
        x.generated(0, 2);
        x.give(1, MARK, 3, 7, false);
        x.use(2, SHAPE, 1);
        rowIs("19 generated", x, 0, 0, 0, 0, 0, 1, digestOf(0, 0, 1, 0, 1, NONE, 0, 1, 1, 3, 7, 0));
    }

    /** The longest rows that there can be: no room may end before them. */
    private static void longestRow() {
        RemakeNeeds2 x = with(16);
        for (int u = 0; u < 15; u++) {
            for (int n = 0; n < 10; n++) {
                x.give(u, MARK, n, n, false);
            }
        }
        for (int n = 0; n < 10; n++) {
            x.give(15, CONSTANT, n, 1, false);
            x.build(15, n, n + 1);
            x.build(15, n, n + 1);
            x.build(15, n, n + 1);
        }
        for (int u = 0; u < 6; u++) {
            x.way(15, u);
        }
        for (int n = 0; n < 12; n++) {
            x.use(15, SHAPE, n);
        }
        x.reader(15, true);
        int size = 1 + 80 + 7 + 49 + 60 + 1 + 450 + 1;
        due("18 constants and marks", x.size(15), size);
        due("19 its end", x.row(15, size - 1), 0);
        due("19 its last mark", x.row(15, size - 2) * 100 + x.row(15, size - 3) * 10 + x.row(15, size - 4), 1004);
        due("24 made", x.force(15), 1);
        due("21 not needed", x.why(15), 0);
        due("20 its last mark", x.kept(15, size - 3), 9);
        for (int n = 0; n < 10; n++) {
            x.take(15, CONSTANT, n);
            x.give(15, MARK, n, n, false);
        }
        due("18 all marks", x.size(15), 1 + 50 + 7 + 49 + 1 + 480 + 1);
        due("21 other things", x.why(15), 2);
    }

    /** Promise 20. */
    private static void kept() {
        RemakeNeeds2 x = with(2);
        x.give(0, SHAPE, 1, 5, false);
        Due.throwsIt("20 never made", NullPointerException.class, () -> x.kept(0, 0));
        Due.throwsIt("20 never made, -1", NullPointerException.class, () -> x.kept(0, -1));
        x.force(0);
        x.give(0, SHAPE, 1, 6, false);
        due("20 as it was", x.kept(0, 3), 5);
        due("20 as it is", x.row(0, 3), 6);
        due("20 its end", x.kept(0, 9), 0);
        Due.throwsIt("20 behind", NO_PLACE, () -> x.kept(0, 10));
        Due.throwsIt("20 -1", NO_PLACE, () -> x.kept(0, -1));
        x.take(0, SHAPE, 1);
        due("20 still whole", x.kept(0, 9), 0);
        x.force(0);
        due("20 anew", x.kept(0, 4), 0);
        Due.throwsIt("20 shorter now", NO_PLACE, () -> x.kept(0, 5));
        Due.throwsIt("20 the other", NullPointerException.class, () -> x.kept(1, 0));
        due("20 no unit", x.kept(2, 0), 0);
        x.remove(0);
        due("20 gone", x.kept(0, 99), 0);
    }

    /** Promise 21. */
    private static void why() {
        RemakeNeeds2 x = with(3);
        due("21 never made", x.why(0), 1);
        x.make(16);
        due("21 made", x.why(0), 0);
        due("21 no unit", x.why(3), UNKNOWN);
        due("21 no unit -1", x.why(-1), UNKNOWN);
        x.give(0, SHAPE, 1, 1, false);
        due("21 gives more", x.why(0), 2);
        x.take(0, SHAPE, 1);
        due("21 as it was", x.why(0), 0);
        x.way(0, 1);
        due("21 way", x.why(0), 2);
        x.unway(0);
        due("21 way as it was", x.why(0), 0);
        x.use(0, SHAPE, 1);
        due("21 uses more", x.why(0), 2);
        x.use(0, CONSTANT, 1);
        x.make(16);
        x.unuse(0, 1);
        x.use(0, CONSTANT, 2);
        due("21 as many uses, others", x.why(0), 2);
        x.unuse(0, 1);
        x.use(0, CONSTANT, 1);
        x.unuse(0, 0);
        due("21 uses fewer", x.why(0), 2);
        x.use(0, SHAPE, 1);
        due("21 uses in another order", x.why(0), 2);
        x.unuse(0, 0);
        x.use(0, CONSTANT, 1);
        due("21 uses as they were", x.why(0), 0);
        x.reader(0, true);
        due("21 reader", x.why(0), 4);
        x.reader(0, false);
        x.reader(1, true);
        x.generated(0, 1);
        due("21 generated", x.why(0), 5);
        x.make(16);
        x.give(2, MARK, 1, 1, true);
        due("21 marks", x.why(1), 4);
        due("21 what it is generated by", x.why(0), 5);
        due("21 gives a mark", x.why(2), 2);
        x.make(16);
        x.give(2, MARK, 1, 2, false);
        x.reader(2, true);
        x.generated(0, 2);
        due("21 another reader", x.why(0), 5);
        x.make(16);
        x.generated(0, NONE);
        due("21 by none", x.why(0), 5);
    }

    private static void whyByFirst() {
        RemakeNeeds2 x = with(4);
        x.reader(3, true);
        x.give(0, CONSTANT, 1, 1, false);
        x.build(0, 1, 2);
        x.give(0, SHAPE, 4, 1, false);
        x.way(0, 1);
        x.way(0, 2);
        x.use(0, SHAPE, 5);
        x.give(1, CONSTANT, 2, 7, false);
        x.give(1, SHAPE, 5, 7, false);
        x.generated(0, 3);
        x.make(16);
        x.give(2, MARK, 1, 1, false);
        due("21 generated", x.why(0), 5);
        x.give(1, SHAPE, 5, 8, false);
        due("21 a use finds another digest", x.why(0), 3);
        x.give(1, SHAPE, 5, 7, false);
        x.give(1, CONSTANT, 2, 8, false);
        due("21 a name finds another value", x.why(0), 3);
        x.give(1, CONSTANT, 2, 7, true);
        x.give(2, CONSTANT, 2, 7, false);
        due("21 a name finds another unit", x.why(0), 3);
        x.take(1, CONSTANT, 2);
        x.take(2, CONSTANT, 2);
        due("21 a name finds none", x.why(0), 3);
        x.give(1, CONSTANT, 2, 7, false);
        due("21 as before", x.why(0), 5);
        x.give(1, SHAPE, 5, 7, true);
        x.give(2, SHAPE, 5, 7, false);
        due("21 a use finds another unit", x.why(0), 3);
        x.give(0, SHAPE, 4, 1, true);
        due("21 private now", x.why(0), 2);
        x.give(0, SHAPE, 4, 1, false);
        x.build(0, 1, 9);
        due("21 built of more", x.why(0), 2);
        x.generated(0, NONE);
        x.make(16);
        x.give(1, MARK, 9, 9, false);
        x.reader(0, true);
        x.give(0, SHAPE, 5, 1, false);
        due("21 gives ahead of reader", x.why(0), 2);
        x.take(0, SHAPE, 5);
        due("21 reader", x.why(0), 4);
    }

    /** Promise 22. */
    private static void needs() {
        RemakeNeeds2 x = with(3);
        due("22 all", x.needs(), 3);
        x.force(1);
        due("22 two", x.needs(), 2);
        x.remove(0);
        due("22 one", x.needs(), 1);
        x.make(16);
        due("22 none", x.needs(), 0);
        x.give(1, SHAPE, 1, 1, false);
        x.way(2, 1);
        x.make(16);
        x.give(1, SHAPE, 2, 1, false);
        due("22 only what changed", x.needs(), 1);
        x.give(1, CONSTANT, 1, 5, false);
        x.use(2, CONSTANT, 1);
        x.make(16);
        x.give(1, CONSTANT, 1, 6, false);
        due("22 and what finds another value", x.needs(), 2);
    }

    /** Promise 23. */
    private static void make() {
        RemakeNeeds2 x = with(4);
        x.give(3, SHAPE, 1, 1, false);
        x.use(0, SHAPE, 1);
        x.way(0, 3);
        due("23 nothing", x.make(0), 0);
        due("23 -1", x.make(-1), OUTSIDE);
        due("23 17", x.make(17), OUTSIDE);
        due("23 two", x.make(2), 2);
        due("23 by the order", x.why(1) * 1000 + x.why(2) * 100 + x.why(3) * 10 + x.why(0), 11);
        due("23 the rest", x.make(16), 2);
        due("23 no more", x.make(16), 0);
        x.give(3, SHAPE, 1, 2, false);
        x.give(2, SHAPE, 9, 2, false);
        due("23 first those that are needed", x.make(1), 1);
        due("23 two is made", x.why(2) * 100 + x.why(3) * 10 + x.why(0), 23);
        due("23 then the next", x.make(1), 1);
        due("23 three is made", x.why(3) * 10 + x.why(0), 3);
        due("23 then the last", x.make(5), 1);
        due("23 seven in all", x.count(4), 7);
    }

    /** Promise 24. */
    private static void force() {
        RemakeNeeds2 x = with(2);
        due("24 once", x.force(1), 1);
        due("24 twice, not needed", x.force(1), 2);
        x.make(16);
        due("24 the other", x.force(0), 2);
        due("24 thrice", x.force(1), 3);
        due("24 in all", x.count(4), 5);
        due("24 no unit", x.force(2), UNKNOWN);
        due("24 no unit -1", x.force(-1), UNKNOWN);
        due("24 not counted", x.count(4), 5);
        x.give(0, CONSTANT, 1, 5, false);
        x.use(0, CONSTANT, 1);
        x.force(0);
        due("24 with the values as they are now", x.kept(0, 11), 5);
        x.give(0, CONSTANT, 1, 6, false);
        x.force(0);
        due("24 with the values as they are then", x.kept(0, 11), 6);
    }

    /** Promise 25. */
    private static void output() {
        RemakeNeeds2 x = with(2);
        due("25 never made", x.output(0), 0);
        x.force(0);
        due("25 made", x.output(0), digestOf(0, 0, 0, 0, 0));
        x.give(0, SHAPE, 1, -1, true);
        due("25 of the row that is kept", x.output(0), digestOf(0, 0, 0, 0, 0));
        x.force(0);
        due("25 anew", x.output(0), digestOf(1, 0, 1, -1, 1, 0, 0, 0, 0, 0));
        due("25 no unit", x.output(2), 0);
        due("25 no unit -1", x.output(-1), 0);
        x.remove(0);
        due("25 gone", x.output(0), 0);
    }

    /** Promise 26. */
    private static void anew() {
        RemakeNeeds2 x = with(3);
        x.give(2, SHAPE, 1, 8, false);
        x.way(0, 2);
        x.use(0, SHAPE, 1);
        x.remove(1);
        long two = digestOf(1, 0, 1, 8, 0, 0, 0, 0, 0, 0);
        long zero = digestOf(0, 1, 2, 1, 0, 1, 2, 8, 0, 0);
        due("26 by the order", x.anew(), digestOf(two, zero));
        due("26 makes nothing", x.needs() * 10 + x.count(4), 20);
        x.make(16);
        x.give(2, SHAPE, 1, 9, false);
        two = digestOf(1, 0, 1, 9, 0, 0, 0, 0, 0, 0);
        zero = digestOf(0, 1, 2, 1, 0, 1, 2, 9, 0, 0);
        due("26 as it is now", x.anew(), digestOf(two, zero));
        RemakeNeeds2 y = with(1);
        y.use(0, CONSTANT, 1);
        for (int digest = 5; digest < 8; digest++) {
            y.give(0, CONSTANT, 1, digest, false);
            long row = digestOf(1, 1, 1, digest, 0, 0, 0, 1, 1, 1, 0, digest, 0, 0);
            due("26 with the values as they are now", y.anew(), digestOf(row));
        }
    }

    /** Promise 27. */
    private static void coarse() {
        RemakeNeeds2 x = with(5);
        due("27 all are new", x.coarse(), 5);
        x.give(0, SHAPE, 1, 1, false);
        x.give(0, SHAPE, 2, 1, false);
        x.give(1, SHAPE, 3, 1, false);
        x.way(1, 0);
        x.way(2, 1);
        x.use(1, SHAPE, 1);
        x.use(2, SHAPE, 3);
        x.make(16);
        due("27 none", x.coarse(), 0);
        x.give(0, SHAPE, 2, 2, false);
        due("27 all that lead there", x.coarse(), 3);
        due("22 needs is finer", x.needs(), 1);
        x.make(16);
        x.reader(3, true);
        due("27 not by 4", x.needs() * 10 + x.coarse(), 10);
        x.generated(4, 3);
        due("27 not by 5", x.needs() * 10 + x.coarse(), 20);
        x.give(3, SHAPE, 9, 1, false);
        due("27 what is generated leads to its reader", x.coarse(), 2);
        x.make(16);
        x.unit();
        due("27 a new one", x.coarse(), 1);
    }

    /** Promise 28. */
    private static void order() {
        RemakeNeeds2 x = with(5);
        orderIs("28 by numbers", x, 0, 1, 2, 3, 4);
        x.give(4, CONSTANT, 1, 1, false);
        x.give(3, CONSTANT, 2, 1, false);
        x.way(0, 4);
        x.use(0, CONSTANT, 1);
        orderIs("28 behind what it leads to", x, 1, 2, 3, 4, 0);
        x.way(4, 3);
        x.build(4, 1, 2);
        x.way(3, 4);
        x.build(3, 2, 1);
        orderIs("28 a ring", x, 1, 2, 3, 4, 0);
        x.reader(0, true);
        x.generated(1, 0);
        orderIs("28 generated behind its reader", x, 2, 3, 4, 0, 1);
        x.remove(2);
        orderIs("28 gone", x, 3, 4, 0, 1);
        Due.throwsIt("28 -1", NO_PLACE, () -> x.order(-1));
        Due.throwsIt("28 far", NO_PLACE, () -> x.order(Integer.MAX_VALUE));
        RemakeNeeds2 y = with(3);
        y.give(0, SHAPE, 1, 1, false);
        y.give(2, SHAPE, 2, 1, false);
        y.way(0, 2);
        y.way(2, 0);
        y.use(0, SHAPE, 2);
        y.use(2, SHAPE, 1);
        orderIs("28 ring by ring, by the least unit", y, 0, 2, 1);
    }

    /** Promise 29. */
    private static void ring() {
        RemakeNeeds2 x = with(4);
        due("29 alone", x.ring(3), 3);
        x.give(0, SHAPE, 1, 1, false);
        x.give(3, SHAPE, 2, 1, false);
        x.way(0, 3);
        x.way(3, 0);
        x.use(0, SHAPE, 2);
        x.use(3, SHAPE, 1);
        due("29 together", x.ring(0) * 10 + x.ring(3), 0);
        due("29 the others", x.ring(1) * 10 + x.ring(2), 12);
        x.way(3, 2);
        x.give(2, SHAPE, 9, 1, false);
        x.use(3, SHAPE, 9);
        due("29 behind what one of it leads to", x.ring(0) * 10 + x.ring(3), 22);
        due("29 ahead", x.ring(1) * 10 + x.ring(2), 1);
        x.unway(0);
        due("29 alone again", x.ring(0) * 10 + x.ring(1), 1);
        due("29 no unit", x.ring(4), UNKNOWN);
        due("29 no unit -1", x.ring(-1), UNKNOWN);
    }

    /** Promise 30. */
    private static void leads() {
        RemakeNeeds2 x = with(4);
        x.give(0, SHAPE, 1, 1, false);
        x.way(1, 0);
        due("30 a way alone does not", x.leads(1, 0), 0);
        x.use(1, SHAPE, 1);
        due("30 by a use", x.leads(1, 0), 1);
        due("30 not back", x.leads(0, 1), 0);
        due("30 not to itself", x.leads(1, 1), 0);
        x.give(1, CONSTANT, 2, 1, false);
        x.give(2, CONSTANT, 3, 1, false);
        x.way(2, 1);
        x.build(2, 3, 2);
        due("30 by a name, and on", x.leads(2, 1) * 10 + x.leads(2, 0), 11);
        x.reader(3, true);
        x.use(3, CONSTANT, 3);
        x.way(3, 2);
        x.generated(0, 3);
        due("30 by a reader, round to itself", x.leads(0, 0) + x.leads(3, 3) + x.leads(1, 3), 3);
        due("30 no unit", x.leads(4, 0), UNKNOWN);
        due("30 no other", x.leads(0, 4), UNKNOWN);
        due("30 -1", x.leads(0, -1), UNKNOWN);
        RemakeNeeds2 y = with(1);
        y.use(0, SHAPE, 1);
        due("30 finds none", y.leads(0, 0), 0);
        y.give(0, SHAPE, 1, 1, true);
        due("30 finds itself", y.leads(0, 0), 1);
        due("30 alone all the same", y.count(3), 0);
    }

    /** Promise 31. */
    private static void count() {
        RemakeNeeds2 x = with(3);
        x.make(2);
        x.remove(0);
        due("31 there", x.count(0), 2);
        due("31 ever", x.count(1), 3);
        due("31 rings", x.count(2), 2);
        due("31 of more than one", x.count(3), 0);
        due("31 made in all", x.count(4), 2);
        x.give(1, SHAPE, 1, 1, false);
        x.give(2, SHAPE, 2, 1, false);
        x.way(1, 2);
        x.way(2, 1);
        x.use(1, SHAPE, 2);
        x.use(2, SHAPE, 1);
        due("31 one ring", x.count(2) * 10 + x.count(3), 11);
        x.unuse(2, 0);
        due("31 that is no ring more", x.count(3) * 10 + x.count(2), 2);
        due("31 -1", x.count(-1), OUTSIDE);
        due("31 5", x.count(5), OUTSIDE);
    }

    /** Promise 32. */
    private static void clear() {
        RemakeNeeds2 x = with(4);
        x.give(0, CONSTANT, 1, 1, true);
        x.build(0, 1, 2);
        x.way(0, 1);
        x.use(0, SHAPE, 1);
        x.reader(2, true);
        x.generated(1, 2);
        x.make(16);
        x.remove(3);
        due("32 three", x.clear(), 3);
        due("32 none", x.clear(), 0);
        for (int what = 0; what < 5; what++) {
            due("32 count " + what, x.count(what), 0);
        }
        due("32 no unit", x.size(0), UNKNOWN);
        for (int u = 0; u < 16; u++) {
            due("32 from 0 on", x.unit(), u);
            rowIs("32 empty", x, u, 0, 0, 0, 0, 0);
        }
        due("32 never made", x.why(0), 1);
        Due.throwsIt("32 keeps none", NullPointerException.class, () -> x.kept(0, 0));
        x.give(0, CONSTANT, 1, 1, false);
        due("32 built of nothing", x.missing(0), 0);
    }
}
