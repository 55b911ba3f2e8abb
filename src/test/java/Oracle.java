import java.util.ArrayList;
import java.util.Arrays;
import java.util.HashMap;
import java.util.HashSet;
import java.util.List;
import java.util.Map;
import java.util.Set;
import java.util.TreeMap;
import java.util.TreeSet;

/** The document's words once more, written as plainly as can be and without any look at speed or room. */
final class Oracle {
    static final int UNKNOWN = -1, OUTSIDE = -2, STATE = -3, FULL = -4, NONE = -5;

    static final class Given {
        long digest;
        boolean hidden;
        List<Integer> of = new ArrayList<>();
    }

    static final class One {
        TreeMap<List<Integer>, Given> gives = new TreeMap<>((a, b) ->
                a.get(0).equals(b.get(0)) ? a.get(1) - b.get(1) : a.get(0) - b.get(0));
        List<Integer> way = new ArrayList<>();
        List<List<Integer>> uses = new ArrayList<>();
        boolean reads;
        Integer by;
        Parts kept;
        int made;
    }

    /** The row, cut into the parts that the reasons tell apart. */
    static final class Parts {
        List<Long> own = new ArrayList<>();
        List<Long> usesCount = new ArrayList<>();
        List<List<Long>> useNames = new ArrayList<>();
        List<List<Long>> useFinds = new ArrayList<>();
        List<Long> builtFinds = new ArrayList<>();
        List<Long> marks = new ArrayList<>();
        List<Long> by = new ArrayList<>();

        List<Long> row() {
            List<Long> all = new ArrayList<>(own);
            all.addAll(usesCount);
            for (int i = 0; i < useNames.size(); i++) {
                all.addAll(useNames.get(i));
                all.addAll(useFinds.get(i));
            }
            all.addAll(builtFinds);
            all.addAll(marks);
            all.addAll(by);
            return all;
        }
    }

    TreeMap<Integer, One> units = new TreeMap<>();
    int ever;
    int made;

    int unit() {
        if (ever == 16) {
            return FULL;
        }
        units.put(ever, new One());
        return ever++;
    }

    static boolean in(int n, int low, int high) {
        return low <= n && n <= high;
    }

    int give(int u, int sort, int name, long digest, boolean hidden) {
        if (!units.containsKey(u)) return UNKNOWN;
        if (!in(sort, 0, 2) || !in(name, 0, 31)) return OUTSIDE;
        Map<List<Integer>, Given> gives = units.get(u).gives;
        Given old = gives.get(List.of(sort, name));
        if (old == null && gives.size() == 10) return FULL;
        Given given = old == null ? new Given() : old;
        given.digest = digest;
        given.hidden = hidden;
        gives.put(List.of(sort, name), given);
        return old == null ? 1 : 0;
    }

    int take(int u, int sort, int name) {
        if (!units.containsKey(u)) return UNKNOWN;
        if (!in(sort, 0, 2) || !in(name, 0, 31)) return OUTSIDE;
        return units.get(u).gives.remove(List.of(sort, name)) == null ? UNKNOWN : 1;
    }

    int build(int u, int name, int of) {
        if (!units.containsKey(u)) return UNKNOWN;
        if (!in(name, 0, 31) || !in(of, 0, 31)) return OUTSIDE;
        Given given = units.get(u).gives.get(List.of(1, name));
        if (given == null) return STATE;
        if (given.of.size() == 3) return FULL;
        given.of.add(of);
        return given.of.size();
    }

    int way(int u, int other) {
        if (!units.containsKey(u) || !units.containsKey(other)) return UNKNOWN;
        List<Integer> way = units.get(u).way;
        if (u == other || way.contains(other)) return STATE;
        if (way.size() == 6) return FULL;
        way.add(other);
        return way.size();
    }

    int unway(int u) {
        if (!units.containsKey(u)) return UNKNOWN;
        int were = units.get(u).way.size();
        units.get(u).way = new ArrayList<>();
        return were;
    }

    int use(int u, int sort, int name) {
        if (!units.containsKey(u)) return UNKNOWN;
        if (!in(sort, 0, 1) || !in(name, 0, 31)) return OUTSIDE;
        List<List<Integer>> uses = units.get(u).uses;
        if (uses.contains(List.of(sort, name))) return STATE;
        if (uses.size() == 12) return FULL;
        uses.add(List.of(sort, name));
        return uses.size();
    }

    int unuse(int u, int i) {
        if (!units.containsKey(u) || !in(i, 0, units.get(u).uses.size() - 1)) return UNKNOWN;
        units.get(u).uses.remove(i);
        return units.get(u).uses.size();
    }

    private void free(int reader) {
        for (One one : units.values()) {
            if (one.by != null && one.by == reader) one.by = null;
        }
    }

    int reader(int u, boolean on) {
        if (!units.containsKey(u)) return UNKNOWN;
        One one = units.get(u);
        if (one.by != null) return STATE;
        int was = one.reads ? 1 : 0;
        one.reads = on;
        if (!on) free(u);
        return was;
    }

    int generated(int u, int by) {
        if (!units.containsKey(u)) return UNKNOWN;
        if (by != NONE && !units.containsKey(by)) return UNKNOWN;
        if (by != NONE && !units.get(by).reads) return STATE;
        if (units.get(u).reads) return STATE;
        units.get(u).by = by == NONE ? null : Integer.valueOf(by);
        return 1;
    }

    int remove(int u) {
        if (units.remove(u) == null) return UNKNOWN;
        for (One one : units.values()) {
            one.way.remove((Integer) u);
        }
        free(u);
        return units.size();
    }

    int looking(int u, int sort, int name) {
        if (units.get(u).gives.containsKey(List.of(sort, name))) return u;
        for (int other : units.get(u).way) {
            Given given = units.get(other).gives.get(List.of(sort, name));
            if (given != null && !given.hidden) return other;
        }
        return NONE;
    }

    int found(int u, int sort, int name) {
        if (!units.containsKey(u)) return UNKNOWN;
        if (!in(sort, 0, 2) || !in(name, 0, 31)) return OUTSIDE;
        return looking(u, sort, name);
    }

    private boolean gives(int u, int name) {
        return units.containsKey(u) && units.get(u).gives.containsKey(List.of(1, name));
    }

    private List<List<Integer>> partsOf(int u, int name) {
        List<List<Integer>> parts = new ArrayList<>();
        for (int of : units.get(u).gives.get(List.of(1, name)).of) {
            int where = looking(u, 1, of);
            if (where != NONE) parts.add(List.of(where, of));
        }
        return parts;
    }

    private void behind(int u, int name, Set<List<Integer>> seen) {
        for (List<Integer> part : partsOf(u, name)) {
            if (seen.add(part)) behind(part.get(0), part.get(1), seen);
        }
    }

    private Set<List<Integer>> behind(int u, int name) {
        Set<List<Integer>> seen = new HashSet<>();
        behind(u, name, seen);
        return seen;
    }

    private boolean isRoundItself(int u, int name) {
        return behind(u, name).contains(List.of(u, name));
    }

    private boolean leadsToRound(int u, int name) {
        if (isRoundItself(u, name)) return true;
        for (List<Integer> part : behind(u, name)) {
            if (isRoundItself(part.get(0), part.get(1))) return true;
        }
        return false;
    }

    /** The values that are known already keep deep runs from being summed again and again. */
    private long valueOf(int u, int name, Map<List<Integer>, Long> known) {
        if (leadsToRound(u, name)) return 0;
        if (known.containsKey(List.of(u, name))) return known.get(List.of(u, name));
        long sum = units.get(u).gives.get(List.of(1, name)).digest;
        for (List<Integer> part : partsOf(u, name)) {
            sum += valueOf(part.get(0), part.get(1), known);
        }
        known.put(List.of(u, name), sum);
        return sum;
    }

    long value(int u, int name) {
        return gives(u, name) ? valueOf(u, name, new HashMap<>()) : 0;
    }

    int round(int u, int name) {
        return !gives(u, name) ? UNKNOWN : leadsToRound(u, name) ? 1 : 0;
    }

    private void chain(List<Integer> at, List<Integer> start, List<List<Integer>> met) {
        for (List<Integer> part : partsOf(at.get(0), at.get(1))) {
            if (met.contains(part)) continue;
            met.add(part);
            if (!part.equals(start)) chain(part, start, met);
        }
    }

    int chain(int u, int name, int i, int what) {
        if (!gives(u, name)) return UNKNOWN;
        if (!in(what, 0, 1)) return OUTSIDE;
        List<List<Integer>> met = new ArrayList<>();
        chain(List.of(u, name), List.of(u, name), met);
        return in(i, 0, met.size() - 1) ? met.get(i).get(what) : NONE;
    }

    int missing(int u) {
        if (!units.containsKey(u)) return UNKNOWN;
        int none = 0;
        for (List<Integer> use : units.get(u).uses) {
            if (looking(u, use.get(0), use.get(1)) == NONE) none++;
        }
        for (Given given : units.get(u).gives.values()) {
            for (int of : given.of) {
                if (looking(u, 1, of) == NONE) none++;
            }
        }
        return none;
    }

    static long digest(List<Long> row) {
        long h = 17;
        for (long it : row) {
            h = (h ^ it) * 0x9E3779B97F4A7C15L;
            h = h ^ (h >>> 29);
        }
        return h;
    }

    private List<Long> finding(int u, int sort, int name) {
        int where = looking(u, sort, name);
        if (where == NONE) return List.of((long) NONE, 0L);
        return List.of((long) where,
                sort == 0 ? units.get(where).gives.get(List.of(0, name)).digest : valueOf(where, name, new HashMap<>()));
    }

    Parts partsNow(int u) {
        One one = units.get(u);
        Parts parts = new Parts();
        parts.own.add((long) one.gives.size());
        for (Map.Entry<List<Integer>, Given> entry : one.gives.entrySet()) {
            Given given = entry.getValue();
            parts.own.addAll(List.of((long) entry.getKey().get(0), (long) entry.getKey().get(1),
                    given.digest, given.hidden ? 1L : 0L, (long) given.of.size()));
            for (int of : given.of) {
                parts.own.add((long) of);
                parts.builtFinds.addAll(finding(u, 1, of));
            }
        }
        parts.own.add((long) one.way.size());
        for (int other : one.way) {
            parts.own.add((long) other);
        }
        parts.usesCount.add((long) one.uses.size());
        for (List<Integer> use : one.uses) {
            parts.useNames.add(List.of((long) use.get(0), (long) use.get(1)));
            parts.useFinds.add(finding(u, use.get(0), use.get(1)));
        }
        parts.marks.add(one.reads ? 1L : 0L);
        if (one.reads) {
            for (Map.Entry<Integer, One> other : units.entrySet()) {
                for (Map.Entry<List<Integer>, Given> entry : other.getValue().gives.entrySet()) {
                    if (entry.getKey().get(0) == 2) {
                        parts.marks.addAll(List.of((long) other.getKey(), (long) entry.getKey().get(1),
                                entry.getValue().digest));
                    }
                }
            }
        }
        parts.by.add(one.by == null ? 0L : 1L);
        if (one.by != null) {
            parts.by.add(digest(partsNow(one.by).row()));
        }
        return parts;
    }

    int size(int u) {
        return units.containsKey(u) ? partsNow(u).row().size() : UNKNOWN;
    }

    long row(int u, int i) {
        if (!units.containsKey(u)) return 0;
        List<Long> row = partsNow(u).row();
        if (!in(i, 0, row.size() - 1)) throw new ArrayIndexOutOfBoundsException();
        return row.get(i);
    }

    long kept(int u, int i) {
        if (!units.containsKey(u)) return 0;
        if (units.get(u).kept == null) throw new NullPointerException();
        List<Long> row = units.get(u).kept.row();
        if (!in(i, 0, row.size() - 1)) throw new ArrayIndexOutOfBoundsException();
        return row.get(i);
    }

    int why(int u) {
        if (!units.containsKey(u)) return UNKNOWN;
        Parts kept = units.get(u).kept;
        if (kept == null) return 1;
        Parts now = partsNow(u);
        if (now.row().equals(kept.row())) return 0;
        if (!now.own.equals(kept.own) || !now.useNames.equals(kept.useNames)) return 2;
        if (!now.useFinds.equals(kept.useFinds) || !now.builtFinds.equals(kept.builtFinds)) return 3;
        return now.marks.equals(kept.marks) ? 5 : 4;
    }

    int needs() {
        int needed = 0;
        for (int u : units.keySet()) {
            if (why(u) > 0) needed++;
        }
        return needed;
    }

    private void makeIt(int u) {
        units.get(u).kept = partsNow(u);
        units.get(u).made++;
        made++;
    }

    int make(int n) {
        if (!in(n, 0, 16)) return OUTSIDE;
        int done = 0;
        for (int u : wholeOrder()) {
            if (done < n && why(u) > 0) {
                makeIt(u);
                done++;
            }
        }
        return done;
    }

    int force(int u) {
        if (!units.containsKey(u)) return UNKNOWN;
        makeIt(u);
        return units.get(u).made;
    }

    long output(int u) {
        return units.containsKey(u) && units.get(u).kept != null ? digest(units.get(u).kept.row()) : 0;
    }

    long anew() {
        List<Long> outputs = new ArrayList<>();
        for (int u : wholeOrder()) {
            outputs.add(digest(partsNow(u).row()));
        }
        return digest(outputs);
    }

    int coarse() {
        Set<Integer> all = new TreeSet<>();
        for (int u : units.keySet()) {
            for (int other : units.keySet()) {
                boolean own = why(other) == 1 || why(other) == 2;
                if (own && (u == other || leadsFrom(u).contains(other))) all.add(u);
            }
        }
        return all.size();
    }

    private Set<Integer> oneStep(int u) {
        Set<Integer> next = new TreeSet<>();
        for (List<Integer> use : units.get(u).uses) {
            next.add(looking(u, use.get(0), use.get(1)));
        }
        for (Given given : units.get(u).gives.values()) {
            for (int of : given.of) {
                next.add(looking(u, 1, of));
            }
        }
        next.remove(NONE);
        if (units.get(u).by != null) next.add(units.get(u).by);
        return next;
    }

    private Set<Integer> leadsFrom(int u) {
        Set<Integer> to = new TreeSet<>(oneStep(u));
        int before = -1;
        while (before != to.size()) {
            before = to.size();
            for (int v : new ArrayList<>(to)) {
                to.addAll(oneStep(v));
            }
        }
        return to;
    }

    List<TreeSet<Integer>> ringsInOrder() {
        List<TreeSet<Integer>> left = new ArrayList<>();
        for (int u : units.keySet()) {
            TreeSet<Integer> ring = new TreeSet<>(Arrays.asList(u));
            for (int v : units.keySet()) {
                if (leadsFrom(u).contains(v) && leadsFrom(v).contains(u)) ring.add(v);
            }
            if (!left.contains(ring)) left.add(ring);
        }
        List<TreeSet<Integer>> done = new ArrayList<>();
        Set<Integer> came = new TreeSet<>();
        while (!left.isEmpty()) {
            TreeSet<Integer> best = null;
            for (TreeSet<Integer> ring : left) {
                boolean free = true;
                for (int u : ring) {
                    for (int v : leadsFrom(u)) {
                        free &= ring.contains(v) || came.contains(v);
                    }
                }
                if (free && (best == null || ring.first() < best.first())) best = ring;
            }
            left.remove(best);
            done.add(best);
            came.addAll(best);
        }
        return done;
    }

    List<Integer> wholeOrder() {
        List<Integer> order = new ArrayList<>();
        for (TreeSet<Integer> ring : ringsInOrder()) {
            order.addAll(ring);
        }
        return order;
    }

    int order(int i) {
        List<Integer> order = wholeOrder();
        if (!in(i, 0, order.size() - 1)) throw new ArrayIndexOutOfBoundsException();
        return order.get(i);
    }

    int ring(int u) {
        if (!units.containsKey(u)) return UNKNOWN;
        List<TreeSet<Integer>> rings = ringsInOrder();
        for (int r = 0; r < rings.size(); r++) {
            if (rings.get(r).contains(u)) return r;
        }
        throw new IllegalStateException("no ring");
    }

    int leads(int u, int other) {
        if (!units.containsKey(u) || !units.containsKey(other)) return UNKNOWN;
        return leadsFrom(u).contains(other) ? 1 : 0;
    }

    int count(int what) {
        if (what == 0) return units.size();
        if (what == 1) return ever;
        if (what == 2) return ringsInOrder().size();
        if (what == 3) {
            int more = 0;
            for (TreeSet<Integer> ring : ringsInOrder()) {
                if (ring.size() > 1) more++;
            }
            return more;
        }
        return what == 4 ? made : OUTSIDE;
    }

    int clear() {
        int were = units.size();
        units.clear();
        ever = 0;
        made = 0;
        return were;
    }
}
