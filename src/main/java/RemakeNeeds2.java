/**
 * Making by needs: which units are to be made again behind changes, and nothing else.
 * The document DOC.md says, promise by promise, what each call answers.
 */
public final class RemakeNeeds2 {
    public static final int UNKNOWN = -1, OUTSIDE = -2, STATE = -3, FULL = -4, NONE = -5;

    private static final int SHAPE = 0, CONSTANT = 1, MARK = 2;
    private static final int SORTS = 3, NAMES = 32;
    private static final int MOST_UNITS = 16, MOST_THINGS = 10, MOST_BUILT = 3, MOST_WAY = 6, MOST_USES = 12;
    private static final int MOST_CONSTANTS = MOST_UNITS * MOST_THINGS;
    private static final int MOST_SOUGHT = MOST_USES + MOST_THINGS * MOST_BUILT;

    /** The longest row: things, way, uses, what constants are built of, all marks, reader and generated. */
    private static final int ROW_ROOM = 1 + MOST_THINGS * (5 + MOST_BUILT) + 1 + MOST_WAY + 1 + MOST_USES * 4
            + MOST_THINGS * MOST_BUILT * 2 + 1 + MOST_UNITS * MOST_THINGS * 3 + 2;

    /** Far above the steps of any walk: each constant is entered once and has three parts at most. */
    private static final int MOST_STEPS = 1_000_000;

    private final Units units;
    private final Constants constants;
    private final Rows rows;
    private final Rings rings;
    private int madeInAll;

    public RemakeNeeds2() {
        units = new Units();
        constants = new Constants();
        rows = new Rows();
        rings = new Rings();
        madeInAll = 0;
    }

    public int unit() {
        Unit one = units.addOne();
        return one == null ? FULL : one.number;
    }

    public int give(int unit, int sort, int name, long digest, boolean isPrivate) {
        Unit one = units.at(unit);
        if (one == null) {
            return UNKNOWN;
        }
        if (!isBelow(sort, SORTS) || !isBelow(name, NAMES)) {
            return OUTSIDE;
        }
        int key = keyOf(sort, name);
        Thing old = one.thingFor(key);
        Thing thing = old == null ? one.addThing(key) : old;
        if (thing == null) {
            return FULL;
        }
        thing.digest = digest;
        thing.isPrivate = isPrivate;
        return old == null ? 1 : 0;
    }

    public int take(int unit, int sort, int name) {
        Unit one = units.at(unit);
        if (one == null) {
            return UNKNOWN;
        }
        if (!isBelow(sort, SORTS) || !isBelow(name, NAMES)) {
            return OUTSIDE;
        }
        return one.dropThing(keyOf(sort, name)) ? 1 : UNKNOWN;
    }

    public int build(int unit, int name, int of) {
        Unit one = units.at(unit);
        if (one == null) {
            return UNKNOWN;
        }
        if (!isBelow(name, NAMES) || !isBelow(of, NAMES)) {
            return OUTSIDE;
        }
        Thing constant = one.thingFor(keyOf(CONSTANT, name));
        if (constant == null) {
            return STATE;
        }
        return appendTo(constant.builtOf, of);
    }

    public int way(int unit, int other) {
        Unit one = units.at(unit);
        if (one == null || units.at(other) == null) {
            return UNKNOWN;
        }
        if (unit == other || one.ways.has(other)) {
            return STATE;
        }
        return appendTo(one.ways, other);
    }

    public int unway(int unit) {
        Unit one = units.at(unit);
        if (one == null) {
            return UNKNOWN;
        }
        int were = one.ways.length();
        one.ways.empty();
        return were;
    }

    public int use(int unit, int sort, int name) {
        Unit one = units.at(unit);
        if (one == null) {
            return UNKNOWN;
        }
        if ((sort != SHAPE && sort != CONSTANT) || !isBelow(name, NAMES)) {
            return OUTSIDE;
        }
        int key = keyOf(sort, name);
        if (one.uses.has(key)) {
            return STATE;
        }
        return appendTo(one.uses, key);
    }

    public int unuse(int unit, int i) {
        Unit one = units.at(unit);
        if (one == null || !isBelow(i, one.uses.length())) {
            return UNKNOWN;
        }
        one.uses.dropAt(i);
        return one.uses.length();
    }

    public int reader(int unit, boolean on) {
        Unit one = units.at(unit);
        if (one == null) {
            return UNKNOWN;
        }
        if (one.maker != NONE) {
            return STATE;
        }
        int was = one.isReader ? 1 : 0;
        one.isReader = on;
        if (!on) {
            units.freeFrom(unit);
        }
        return was;
    }

    public int generated(int unit, int by) {
        Unit one = units.at(unit);
        Unit maker = units.at(by);
        if (one == null || (maker == null && by != NONE)) {
            return UNKNOWN;
        }
        if (one.isReader || (maker != null && !maker.isReader)) {
            return STATE;
        }
        one.maker = by;
        return 1;
    }

    public int remove(int unit) {
        if (units.at(unit) == null) {
            return UNKNOWN;
        }
        units.dropOne(unit);
        return units.thereNow();
    }

    public int found(int unit, int sort, int name) {
        Unit one = units.at(unit);
        if (one == null) {
            return UNKNOWN;
        }
        if (!isBelow(sort, SORTS) || !isBelow(name, NAMES)) {
            return OUTSIDE;
        }
        Thing thing = units.lookFrom(one, keyOf(sort, name));
        return thing == null ? NONE : thing.owner;
    }

    public long value(int unit, int name) {
        Thing constant = constantOf(unit, name);
        if (constant == null) {
            return 0;
        }
        constants.settleAll(units);
        return constant.sum;
    }

    public int round(int unit, int name) {
        Thing constant = constantOf(unit, name);
        if (constant == null) {
            return UNKNOWN;
        }
        constants.settleAll(units);
        return constant.isRound ? 1 : 0;
    }

    public int chain(int unit, int name, int i, int what) {
        Thing start = constantOf(unit, name);
        if (start == null) {
            return UNKNOWN;
        }
        if (what != 0 && what != 1) {
            return OUTSIDE;
        }
        constants.follow(start, units);
        Thing met = constants.metAt(i);
        if (met == null) {
            return NONE;
        }
        return what == 0 ? met.owner : nameOf(met.key);
    }

    public int missing(int unit) {
        Unit one = units.at(unit);
        return one == null ? UNKNOWN : units.missingOf(one);
    }

    public int size(int unit) {
        Unit one = units.at(unit);
        if (one == null) {
            return UNKNOWN;
        }
        constants.settleAll(units);
        return rows.now(one, units).length();
    }

    public long row(int unit, int i) throws ArrayIndexOutOfBoundsException {
        Unit one = units.at(unit);
        if (one == null) {
            return 0;
        }
        constants.settleAll(units);
        Row now = rows.now(one, units);
        if (!isBelow(i, now.length())) {
            throw new ArrayIndexOutOfBoundsException("the row has no such long");
        }
        return now.at(i);
    }

    public long kept(int unit, int i) throws NullPointerException, ArrayIndexOutOfBoundsException {
        Unit one = units.at(unit);
        if (one == null) {
            return 0;
        }
        if (one.timesMade == 0) {
            throw new NullPointerException("the unit was never made");
        }
        if (!isBelow(i, one.keptRow.length())) {
            throw new ArrayIndexOutOfBoundsException("the row that is kept has no such long");
        }
        return one.keptRow.at(i);
    }

    public int why(int unit) {
        Unit one = units.at(unit);
        if (one == null) {
            return UNKNOWN;
        }
        constants.settleAll(units);
        return rows.reasonFor(one, units);
    }

    public int needs() {
        constants.settleAll(units);
        int needed = 0;
        for (int u = 0; u < MOST_UNITS; u++) {
            Unit one = units.at(u);
            if (one != null && rows.reasonFor(one, units) != 0) {
                needed++;
            }
        }
        return needed;
    }

    public int make(int n) {
        if (n < 0 || n > MOST_UNITS) {
            return OUTSIDE;
        }
        constants.settleAll(units);
        rings.arrange(units);
        int made = 0;
        for (int place = 0; place < rings.inOrder.length() && made < n; place++) {
            Unit one = units.at(rings.inOrder.at(place));
            if (one != null && rows.reasonFor(one, units) != 0) {
                makeOne(one);
                made++;
            }
        }
        return made;
    }

    public int force(int unit) {
        Unit one = units.at(unit);
        if (one == null) {
            return UNKNOWN;
        }
        constants.settleAll(units);
        makeOne(one);
        return one.timesMade;
    }

    public long output(int unit) {
        Unit one = units.at(unit);
        return one == null || one.timesMade == 0 ? 0 : one.keptRow.digest();
    }

    public long anew() {
        constants.settleAll(units);
        rings.arrange(units);
        long digest = Row.DIGEST_START;
        for (int place = 0; place < rings.inOrder.length(); place++) {
            Unit one = units.at(rings.inOrder.at(place));
            if (one != null) {
                digest = Row.mix(digest, rows.now(one, units).digest());
            }
        }
        return digest;
    }

    public int coarse() {
        constants.settleAll(units);
        rings.arrange(units);
        int changed = 0;
        for (int u = 0; u < MOST_UNITS; u++) {
            Unit one = units.at(u);
            int reason = one == null ? 0 : rows.reasonFor(one, units);
            if (reason == Row.NEVER_MADE || reason == Row.OWN_CHANGED) {
                changed |= 1 << u;
            }
        }
        int behind = changed;
        for (int u = 0; u < MOST_UNITS; u++) {
            if ((rings.reachOf(u) & changed) != 0) {
                behind |= 1 << u;
            }
        }
        return Integer.bitCount(behind);
    }

    public int order(int i) throws ArrayIndexOutOfBoundsException {
        rings.arrange(units);
        if (!isBelow(i, rings.inOrder.length())) {
            throw new ArrayIndexOutOfBoundsException("the order has no such place");
        }
        return rings.inOrder.at(i);
    }

    public int ring(int unit) {
        if (units.at(unit) == null) {
            return UNKNOWN;
        }
        rings.arrange(units);
        return rings.ringOf(unit);
    }

    public int leads(int unit, int other) {
        if (units.at(unit) == null || units.at(other) == null) {
            return UNKNOWN;
        }
        rings.arrange(units);
        return (rings.reachOf(unit) >> other) & 1;
    }

    public int count(int what) {
        switch (what) {
            case 0:
                return units.thereNow();
            case 1:
                return units.ever;
            case 2:
                rings.arrange(units);
                return rings.ringCount;
            case 3:
                rings.arrange(units);
                return rings.bigRingCount;
            case 4:
                return madeInAll;
            default:
                return OUTSIDE;
        }
    }

    public int clear() {
        int were = units.thereNow();
        units.dropAll();
        madeInAll = 0;
        return were;
    }

    private static boolean isBelow(int number, int bound) {
        return number >= 0 && number < bound;
    }

    /** Keys are ordered as the document orders things: by sorts, then by names. */
    private static int keyOf(int sort, int name) {
        return sort * NAMES + name;
    }

    private static int sortOf(int key) {
        return key / NAMES;
    }

    private static int nameOf(int key) {
        return key % NAMES;
    }

    /** The new length of the list, or FULL. */
    private static int appendTo(Ints list, int item) {
        return list.append(item) ? list.length() : FULL;
    }

    /** Null if there is no such unit or it gives no such constant. */
    private Thing constantOf(int unit, int name) {
        Unit one = units.at(unit);
        return one == null || !isBelow(name, NAMES) ? null : one.thingFor(keyOf(CONSTANT, name));
    }

    /** The constants must be settled: the row takes their values as they stand. */
    private void makeOne(Unit one) {
        rows.write(one.keptRow, one, units);
        one.timesMade++;
        madeInAll++;
    }

    /** A list of ints that has a fixed room. */
    private static final class Ints {
        private final int[] items;
        private int length;

        Ints(int room) {
            items = new int[Math.max(room, 0)];
            length = 0;
        }

        int length() {
            return length;
        }

        int at(int i) {
            return i >= 0 && i < length && i < items.length ? items[i] : NONE;
        }

        boolean has(int item) {
            for (int i = 0; i < length && i < items.length; i++) {
                if (items[i] == item) {
                    return true;
                }
            }
            return false;
        }

        /** False if there is no room left. */
        boolean append(int item) {
            if (length < 0 || length >= items.length) {
                return false;
            }
            items[length] = item;
            length++;
            return true;
        }

        void dropAt(int i) {
            if (i < 0 || i >= length) {
                return;
            }
            for (int to = i; to + 1 < length && to + 1 < items.length; to++) {
                items[to] = items[to + 1];
            }
            length--;
        }

        void dropItem(int item) {
            for (int i = length - 1; i >= 0; i--) {
                if (at(i) == item) {
                    dropAt(i);
                }
            }
        }

        void empty() {
            length = 0;
        }
    }

    /** What a unit gives for a sort and a name; of a constant also what the walks found out last. */
    private static final class Thing {
        static final int FRESH = 0, OPEN = 1, SETTLED = 2;

        final int owner;
        final Ints builtOf;
        int key;
        long digest;
        boolean isPrivate;
        int stage;
        long sum;
        boolean isRound;
        boolean isMet;
        int nextPart;

        Thing(int owner) {
            this.owner = owner;
            builtOf = new Ints(MOST_BUILT);
        }
    }

    /** One unit: what it gives, its way and uses, and the row it keeps. */
    private static final class Unit {
        final int number;
        final Ints ways;
        final Ints uses;
        final Row keptRow;
        /** The first thingCount are given, ordered by their keys; those behind wait to be used again. */
        private final Thing[] things;
        private int thingCount;
        private final Ints sought;
        boolean isThere;
        boolean isReader;
        int maker;
        int timesMade;

        Unit(int number) {
            this.number = number;
            ways = new Ints(MOST_WAY);
            uses = new Ints(MOST_USES);
            keptRow = new Row();
            things = new Thing[MOST_THINGS];
            for (int i = 0; i < things.length; i++) {
                things[i] = new Thing(number);
            }
            sought = new Ints(MOST_SOUGHT);
        }

        void start() {
            isThere = true;
            isReader = false;
            maker = NONE;
            timesMade = 0;
            thingCount = 0;
            ways.empty();
            uses.empty();
        }

        int thingCount() {
            return thingCount;
        }

        Thing thingAt(int i) {
            return i >= 0 && i < thingCount && i < things.length ? things[i] : null;
        }

        Thing thingFor(int key) {
            for (int i = 0; i < thingCount && i < things.length; i++) {
                if (things[i] != null && things[i].key == key) {
                    return things[i];
                }
            }
            return null;
        }

        /** The keys it looks for: of its uses, then of the names of which its constants are built. */
        Ints sought() {
            sought.empty();
            for (int i = 0; i < uses.length(); i++) {
                sought.append(uses.at(i));
            }
            for (int t = 0; t < thingCount; t++) {
                Thing thing = thingAt(t);
                for (int i = 0; thing != null && i < thing.builtOf.length(); i++) {
                    sought.append(keyOf(CONSTANT, thing.builtOf.at(i)));
                }
            }
            return sought;
        }

        /** Null if there is no room left. */
        Thing addThing(int key) {
            if (thingCount < 0 || thingCount >= things.length || things[thingCount] == null) {
                return null;
            }
            Thing added = things[thingCount];
            int place = thingCount;
            for (; place > 0 && place < things.length && isBehind(things[place - 1], key); place--) {
                things[place] = things[place - 1];
            }
            things[place] = added;
            thingCount++;
            added.key = key;
            added.builtOf.empty();
            return added;
        }

        private static boolean isBehind(Thing thing, int key) {
            return thing != null && thing.key > key;
        }

        /** False if it gives no such thing. */
        boolean dropThing(int key) {
            Thing gone = thingFor(key);
            if (gone == null) {
                return false;
            }
            int to = 0;
            for (int i = 0; i < thingCount && i < things.length; i++) {
                if (things[i] != gone && to < things.length) {
                    things[to] = things[i];
                    to++;
                }
            }
            if (to < things.length) {
                things[to] = gone;
            }
            thingCount = to;
            return true;
        }
    }

    /** All units, and the looking for things from one of them. */
    private static final class Units {
        /** Units that were made before a clear stay here to be used again. */
        private final Unit[] all;
        int ever;

        Units() {
            all = new Unit[MOST_UNITS];
            ever = 0;
        }

        /** Null if there is no such unit, or it is gone. */
        Unit at(int number) {
            if (number < 0 || number >= ever || number >= all.length) {
                return null;
            }
            Unit one = all[number];
            return one != null && one.isThere ? one : null;
        }

        /** Null if there were as many as there may ever be. */
        Unit addOne() {
            if (ever < 0 || ever >= all.length) {
                return null;
            }
            Unit one = all[ever];
            if (one == null) {
                one = new Unit(ever);
                all[ever] = one;
            }
            one.start();
            ever++;
            return one;
        }

        void dropOne(int number) {
            Unit gone = at(number);
            if (gone == null) {
                return;
            }
            gone.isThere = false;
            freeFrom(number);
            for (int u = 0; u < ever; u++) {
                Unit one = at(u);
                if (one != null) {
                    one.ways.dropItem(number);
                }
            }
        }

        void dropAll() {
            ever = 0;
        }

        /** What the unit generates is generated no more. */
        void freeFrom(int maker) {
            for (int u = 0; u < ever; u++) {
                Unit one = at(u);
                if (one != null && one.maker == maker) {
                    one.maker = NONE;
                }
            }
        }

        int thereNow() {
            int there = 0;
            for (int u = 0; u < ever; u++) {
                if (at(u) != null) {
                    there++;
                }
            }
            return there;
        }

        /** Null if nothing is found. */
        Thing lookFrom(Unit from, int key) {
            Thing own = from.thingFor(key);
            if (own != null) {
                return own;
            }
            for (int i = 0; i < from.ways.length(); i++) {
                Unit other = at(from.ways.at(i));
                Thing thing = other == null ? null : other.thingFor(key);
                if (thing != null && !thing.isPrivate) {
                    return thing;
                }
            }
            return null;
        }

        /** The constant that is found for name i of those of which a constant is built, or null. */
        Thing partOf(Thing constant, int i) {
            Unit owner = at(constant.owner);
            return owner == null ? null : lookFrom(owner, keyOf(CONSTANT, constant.builtOf.at(i)));
        }

        int missingOf(Unit one) {
            Ints sought = one.sought();
            int missed = 0;
            for (int i = 0; i < sought.length(); i++) {
                if (lookFrom(one, sought.at(i)) == null) {
                    missed++;
                }
            }
            return missed;
        }

        /** One bit for each unit that the unit leads to in one step. */
        int nextTo(Unit one) {
            Ints sought = one.sought();
            int next = one.maker == NONE ? 0 : 1 << one.maker;
            for (int i = 0; i < sought.length(); i++) {
                Thing thing = lookFrom(one, sought.at(i));
                next |= thing == null ? 0 : 1 << thing.owner;
            }
            return next;
        }
    }

    /** Walks from constant to constant, as they are built; by a path of its own, since chains may be long. */
    private static final class Constants {
        private final Thing[] path;
        private int depth;
        private final Thing[] met;
        private int metCount;

        Constants() {
            path = new Thing[MOST_CONSTANTS];
            depth = 0;
            met = new Thing[MOST_CONSTANTS];
            metCount = 0;
        }

        /** Finds the values of all constants, and which are round or lead to one that is. */
        void settleAll(Units units) {
            refresh(units);
            for (int u = 0; u < units.ever; u++) {
                Unit one = units.at(u);
                for (int t = 0; one != null && t < one.thingCount(); t++) {
                    Thing thing = one.thingAt(t);
                    if (thing != null && sortOf(thing.key) == CONSTANT && thing.stage == Thing.FRESH) {
                        settle(thing, units);
                    }
                }
            }
        }

        private static void refresh(Units units) {
            for (int u = 0; u < units.ever; u++) {
                Unit one = units.at(u);
                for (int t = 0; one != null && t < one.thingCount(); t++) {
                    Thing thing = one.thingAt(t);
                    if (thing != null) {
                        thing.stage = Thing.FRESH;
                        thing.sum = thing.digest;
                        thing.isRound = false;
                        thing.isMet = false;
                    }
                }
            }
        }

        private void settle(Thing start, Units units) {
            depth = 0;
            enter(start);
            for (int step = 0; step < MOST_STEPS && depth > 0 && depth <= path.length; step++) {
                Thing top = path[depth - 1];
                if (top == null || top.nextPart >= top.builtOf.length()) {
                    close(top);
                    depth--;
                    continue;
                }
                Thing part = units.partOf(top, top.nextPart);
                if (part != null && part.stage == Thing.FRESH) {
                    // The part is looked at again when it is settled.
                    enter(part);
                    continue;
                }
                addPart(top, part);
                top.nextPart++;
            }
        }

        private void enter(Thing thing) {
            if (depth >= 0 && depth < path.length) {
                thing.stage = Thing.OPEN;
                thing.nextPart = 0;
                path[depth] = thing;
                depth++;
            }
        }

        /** A part that is still open leads back to this constant. */
        private static void addPart(Thing constant, Thing part) {
            if (part == null) {
                return;
            }
            constant.sum += part.sum;
            if (part.stage == Thing.OPEN || part.isRound) {
                constant.isRound = true;
            }
        }

        private static void close(Thing constant) {
            if (constant == null) {
                return;
            }
            constant.stage = Thing.SETTLED;
            if (constant.isRound) {
                constant.sum = 0;
            }
        }

        /** Lists the chain of a constant: each with its own behind it, before the next. */
        void follow(Thing start, Units units) {
            refresh(units);
            metCount = 0;
            depth = 0;
            enter(start);
            for (int step = 0; step < MOST_STEPS && depth > 0 && depth <= path.length; step++) {
                Thing top = path[depth - 1];
                if (top == null || top.nextPart >= top.builtOf.length()) {
                    depth--;
                    continue;
                }
                Thing part = units.partOf(top, top.nextPart);
                top.nextPart++;
                if (part == null || part.isMet) {
                    continue;
                }
                note(part);
                if (part.stage == Thing.FRESH) {
                    enter(part);
                }
            }
        }

        private void note(Thing thing) {
            if (metCount >= 0 && metCount < met.length) {
                thing.isMet = true;
                met[metCount] = thing;
                metCount++;
            }
        }

        /** Null if there are not so many in the chain. */
        Thing metAt(int i) {
            return i >= 0 && i < metCount && i < met.length ? met[i] : null;
        }
    }

    /** The longs of a row, and where its parts end. */
    private static final class Row {
        static final int NEVER_MADE = 1, OWN_CHANGED = 2, FINDS_CHANGED = 3, MARKS_CHANGED = 4, MAKER_CHANGED = 5;
        static final long DIGEST_START = 17L;

        private final long[] longs;
        private int length;
        /** Where things and way end, and the uses begin. */
        private int ownEnd;
        private int useCount;
        private int findsEnd;
        private int marksEnd;

        Row() {
            longs = new long[ROW_ROOM];
            length = 0;
        }

        void empty() {
            length = 0;
        }

        int length() {
            return length;
        }

        long at(int i) {
            return i >= 0 && i < length && i < longs.length ? longs[i] : 0;
        }

        void append(long it) {
            if (length >= 0 && length < longs.length) {
                longs[length] = it;
                length++;
            }
        }

        void endOwn(int uses) {
            ownEnd = length;
            useCount = uses;
        }

        void endFinds() {
            findsEnd = length;
        }

        void endMarks() {
            marksEnd = length;
        }

        long digest() {
            long h = DIGEST_START;
            for (int i = 0; i < length; i++) {
                h = mix(h, at(i));
            }
            return h;
        }

        static long mix(long h, long it) {
            long mixed = (h ^ it) * 0x9E3779B97F4A7C15L;
            return mixed ^ (mixed >>> 29);
        }

        /** Why this row is another one than that; 0: it is not. */
        int reasonAgainst(Row that) {
            if (ownEnd != that.ownEnd || !isSame(that, 0, ownEnd) || !hasSameUses(that)) {
                return OWN_CHANGED;
            }
            if (findsEnd != that.findsEnd || !isSame(that, ownEnd, findsEnd)) {
                return FINDS_CHANGED;
            }
            if (marksEnd != that.marksEnd || !isSame(that, findsEnd, marksEnd)) {
                return MARKS_CHANGED;
            }
            return length != that.length || !isSame(that, marksEnd, length) ? MAKER_CHANGED : 0;
        }

        private boolean isSame(Row that, int from, int end) {
            for (int i = from; i < end; i++) {
                if (at(i) != that.at(i)) {
                    return false;
                }
            }
            return true;
        }

        /** Behind their number, each use takes four longs: the first two tell what is used. */
        private boolean hasSameUses(Row that) {
            if (useCount != that.useCount) {
                return false;
            }
            for (int use = 0; use < useCount; use++) {
                int i = ownEnd + 1 + use * 4;
                if (!isSame(that, i, i + 2)) {
                    return false;
                }
            }
            return true;
        }
    }

    /** Writes the rows of units, as they are now; the constants must be settled before. */
    private static final class Rows {
        private final Row scratch;
        private final Row readerScratch;

        Rows() {
            scratch = new Row();
            readerScratch = new Row();
        }

        /** The row that is answered is written over by the next one. */
        Row now(Unit one, Units units) {
            write(scratch, one, units);
            return scratch;
        }

        int reasonFor(Unit one, Units units) {
            if (one.timesMade == 0) {
                return Row.NEVER_MADE;
            }
            write(scratch, one, units);
            return scratch.reasonAgainst(one.keptRow);
        }

        void write(Row row, Unit one, Units units) {
            writeAllButMaker(row, one, units);
            Unit maker = units.at(one.maker);
            if (maker == null) {
                row.append(0);
                return;
            }
            // A reader is never generated itself, so its row ends with 0.
            writeAllButMaker(readerScratch, maker, units);
            readerScratch.append(0);
            row.append(1);
            row.append(readerScratch.digest());
        }

        private static void writeAllButMaker(Row row, Unit one, Units units) {
            row.empty();
            writeThings(row, one);
            writeInts(row, one.ways);
            row.endOwn(one.uses.length());
            writeFinds(row, one, units);
            row.endFinds();
            writeMarks(row, one, units);
            row.endMarks();
        }

        private static void writeThings(Row row, Unit one) {
            row.append(one.thingCount());
            for (int t = 0; t < one.thingCount(); t++) {
                Thing thing = one.thingAt(t);
                if (thing != null) {
                    row.append(sortOf(thing.key));
                    row.append(nameOf(thing.key));
                    row.append(thing.digest);
                    row.append(thing.isPrivate ? 1 : 0);
                    writeInts(row, thing.builtOf);
                }
            }
        }

        /** How many, and these. */
        private static void writeInts(Row row, Ints list) {
            row.append(list.length());
            for (int i = 0; i < list.length(); i++) {
                row.append(list.at(i));
            }
        }

        private static void writeFinds(Row row, Unit one, Units units) {
            Ints sought = one.sought();
            int uses = one.uses.length();
            row.append(uses);
            for (int i = 0; i < sought.length(); i++) {
                int key = sought.at(i);
                if (i < uses) {
                    row.append(sortOf(key));
                    row.append(nameOf(key));
                }
                writeFound(row, units.lookFrom(one, key));
            }
        }

        private static void writeFound(Row row, Thing thing) {
            if (thing == null) {
                row.append(NONE);
                row.append(0);
                return;
            }
            row.append(thing.owner);
            row.append(sortOf(thing.key) == CONSTANT ? thing.sum : thing.digest);
        }

        private static void writeMarks(Row row, Unit one, Units units) {
            row.append(one.isReader ? 1 : 0);
            for (int u = 0; one.isReader && u < units.ever; u++) {
                Unit other = units.at(u);
                for (int t = 0; other != null && t < other.thingCount(); t++) {
                    Thing thing = other.thingAt(t);
                    if (thing != null && sortOf(thing.key) == MARK) {
                        row.append(u);
                        row.append(nameOf(thing.key));
                        row.append(thing.digest);
                    }
                }
            }
        }
    }

    /** Which units lead to which, their rings, and the order of all. */
    private static final class Rings {
        /** One bit for each unit that a unit leads to. */
        private final int[] reach;
        private final int[] ringNumbers;
        final Ints inOrder;
        int ringCount;
        int bigRingCount;

        Rings() {
            reach = new int[MOST_UNITS];
            ringNumbers = new int[MOST_UNITS];
            inOrder = new Ints(MOST_UNITS);
        }

        void arrange(Units units) {
            findReach(units);
            inOrder.empty();
            ringCount = 0;
            bigRingCount = 0;
            int left = 0;
            for (int u = 0; u < reach.length; u++) {
                left |= units.at(u) == null ? 0 : 1 << u;
            }
            for (int turn = 0; turn < MOST_UNITS && left != 0; turn++) {
                left &= ~placeNext(left);
            }
        }

        int reachOf(int unit) {
            return unit >= 0 && unit < reach.length ? reach[unit] : 0;
        }

        int ringOf(int unit) {
            return unit >= 0 && unit < ringNumbers.length ? ringNumbers[unit] : NONE;
        }

        private void findReach(Units units) {
            for (int u = 0; u < reach.length; u++) {
                Unit one = units.at(u);
                reach[u] = one == null ? 0 : units.nextTo(one);
            }
            for (int over = 0; over < reach.length; over++) {
                for (int u = 0; u < reach.length; u++) {
                    if (((reach[u] >> over) & 1) != 0) {
                        reach[u] |= reach[over];
                    }
                }
            }
        }

        /** Of the rings that lead to nothing else that is left, the one with the least unit: its bits. */
        private int placeNext(int left) {
            for (int u = 0; u < reach.length; u++) {
                int ring = ringAround(u);
                if (((left >> u) & 1) != 0 && (reach[u] & left & ~ring) == 0) {
                    place(ring);
                    return ring;
                }
            }
            return 0;
        }

        private int ringAround(int unit) {
            int ring = 1 << unit;
            for (int u = 0; u < reach.length; u++) {
                if (((reachOf(unit) >> u) & 1) != 0 && ((reach[u] >> unit) & 1) != 0) {
                    ring |= 1 << u;
                }
            }
            return ring;
        }

        private void place(int ring) {
            for (int u = 0; u < ringNumbers.length; u++) {
                if (((ring >> u) & 1) != 0) {
                    ringNumbers[u] = ringCount;
                    inOrder.append(u);
                }
            }
            ringCount++;
            if (Integer.bitCount(ring) > 1) {
                bigRingCount++;
            }
        }
    }
}
