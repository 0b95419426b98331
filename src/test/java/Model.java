import java.util.ArrayList;
import java.util.Comparator;
import java.util.List;
import java.util.Map;
import java.util.TreeMap;

/** The document in plain words of the Java library, with no thought of speed or room. */
final class Model {
    static final int NONE = -1, BAD = -2, NOT = -3, FULL = -4, GREAT = -5, LONG = -6, SPENT = -7;

    private static final class Failure extends Exception {
        final int code;

        Failure(int code) {
            super(null, null, false, false);
            this.code = code;
        }
    }

    private final int p;
    private final int n;
    private int order = 2;
    private int fuel = 500;
    private int way = 0;
    private int rules = 0;
    private boolean tidied = false;
    private TreeMap<List<Integer>, Integer> draft = nought();
    private final List<TreeMap<List<Integer>, Integer>> shelf = new ArrayList<>();
    private List<TreeMap<List<Integer>, Integer>> basis = new ArrayList<>();
    private final List<int[]> pairs = new ArrayList<>();
    private final int[] counts = new int[12];
    private int used = 0;

    Model(int p, int n) {
        boolean prime = p >= 2 && p <= 251;
        for (int d = 2; prime && d * d <= p; d++) {
            prime = p % d != 0;
        }
        this.p = prime ? p : 7;
        this.n = n >= 1 && n <= 4 ? n : 3;
        for (int k = 0; k < 24; k++) {
            shelf.add(null);
        }
    }

    // ---- monomials, terms

    private int total(List<Integer> m, int from, int to) {
        int s = 0;
        for (int v = from; v < Math.min(to, n); v++) {
            s += m.get(v);
        }
        return s;
    }

    private int lex(List<Integer> a, List<Integer> b) {
        for (int v = 0; v < n; v++) {
            if (!a.get(v).equals(b.get(v))) {
                return a.get(v) > b.get(v) ? 1 : -1;
            }
        }
        return 0;
    }

    private int reversed(List<Integer> a, List<Integer> b, int from, int to) {
        if (total(a, from, to) != total(b, from, to)) {
            return total(a, from, to) > total(b, from, to) ? 1 : -1;
        }
        for (int v = Math.min(to, n) - 1; v >= from; v--) {
            if (!a.get(v).equals(b.get(v))) {
                return a.get(v) < b.get(v) ? 1 : -1;
            }
        }
        return 0;
    }

    private int byOrder(List<Integer> a, List<Integer> b) {
        if (order == 0) {
            return lex(a, b);
        }
        if (order == 1) {
            return total(a, 0, n) != total(b, 0, n) ? Integer.compare(total(a, 0, n), total(b, 0, n)) : lex(a, b);
        }
        if (order == 2) {
            return reversed(a, b, 0, n);
        }
        int first = reversed(a, b, 0, 2);
        return first != 0 ? first : reversed(a, b, 2, n);
    }

    private TreeMap<List<Integer>, Integer> nought() {
        Comparator<List<Integer>> greatestFirst = (a, b) -> byOrder(b, a);
        return new TreeMap<>(greatestFirst);
    }

    private TreeMap<List<Integer>, Integer> copy(Map<List<Integer>, Integer> f) {
        TreeMap<List<Integer>, Integer> g = nought();
        f.forEach(g::put);
        return g;
    }

    private void more(TreeMap<List<Integer>, Integer> f, List<Integer> m, long number) {
        long now = Math.floorMod(f.getOrDefault(m, 0) + number, (long) p);
        if (now == 0) {
            f.remove(m);
        } else {
            f.put(m, (int) now);
        }
    }

    private static List<Integer> times(List<Integer> a, List<Integer> b, int sign) {
        List<Integer> m = new ArrayList<>();
        for (int v = 0; v < a.size(); v++) {
            m.add(a.get(v) + sign * b.get(v));
        }
        return m;
    }

    private static boolean divides(List<Integer> a, List<Integer> b) {
        for (int v = 0; v < a.size(); v++) {
            if (a.get(v) > b.get(v)) {
                return false;
            }
        }
        return true;
    }

    private static List<Integer> multiple(List<Integer> a, List<Integer> b) {
        List<Integer> m = new ArrayList<>();
        for (int v = 0; v < a.size(); v++) {
            m.add(Math.max(a.get(v), b.get(v)));
        }
        return m;
    }

    private int inverse(int number) {
        for (int k = 1; k < p; k++) {
            if (k * number % p == 1) {
                return k;
            }
        }
        throw new IllegalStateException();
    }

    private TreeMap<List<Integer>, Integer> times(Map<List<Integer>, Integer> f, List<Integer> m, long number) throws Failure {
        TreeMap<List<Integer>, Integer> g = nought();
        for (Map.Entry<List<Integer>, Integer> t : f.entrySet()) {
            List<Integer> product = times(t.getKey(), m, 1);
            for (int e : product) {
                if (e > 30) {
                    throw new Failure(GREAT);
                }
            }
            more(g, product, number * t.getValue());
        }
        return g;
    }

    private TreeMap<List<Integer>, Integer> less(Map<List<Integer>, Integer> f, Map<List<Integer>, Integer> g) {
        TreeMap<List<Integer>, Integer> h = copy(f);
        g.forEach((m, number) -> more(h, m, -number));
        return h;
    }

    private static <T extends Map<List<Integer>, Integer>> T notLong(T f) throws Failure {
        if (f.size() > 40) {
            throw new Failure(LONG);
        }
        return f;
    }

    private TreeMap<List<Integer>, Integer> monic(TreeMap<List<Integer>, Integer> f) {
        TreeMap<List<Integer>, Integer> g = nought();
        int by = inverse(f.firstEntry().getValue());
        f.forEach((m, number) -> more(g, m, number * by));
        return g;
    }

    private TreeMap<List<Integer>, Integer> sOf(TreeMap<List<Integer>, Integer> f, TreeMap<List<Integer>, Integer> g) throws Failure {
        List<Integer> m = multiple(f.firstKey(), g.firstKey());
        return notLong(less(times(monic(f), times(m, f.firstKey(), -1), 1), times(monic(g), times(m, g.firstKey(), -1), 1)));
    }

    private TreeMap<List<Integer>, Integer> leftOf(Map<List<Integer>, Integer> f, List<TreeMap<List<Integer>, Integer>> row) throws Failure {
        TreeMap<List<Integer>, Integer> h = copy(f);
        TreeMap<List<Integer>, Integer> r = nought();
        while (!h.isEmpty()) {
            TreeMap<List<Integer>, Integer> by = null;
            for (TreeMap<List<Integer>, Integer> g : row) {
                if (by == null && divides(g.firstKey(), h.firstKey())) {
                    by = g;
                }
            }
            if (by == null) {
                Map.Entry<List<Integer>, Integer> head = h.pollFirstEntry();
                r.put(head.getKey(), head.getValue());
                notLong(r);
            } else {
                if (used == fuel) {
                    throw new Failure(SPENT);
                }
                used++;
                counts[8]++;
                long number = (long) h.firstEntry().getValue() * inverse(by.firstEntry().getValue());
                h = notLong(less(h, times(by, times(h.firstKey(), by.firstKey(), -1), number)));
            }
        }
        return r;
    }

    // ---- places

    private TreeMap<List<Integer>, Integer> at(int place) {
        if (place == -1) {
            return draft;
        }
        if (place >= 0) {
            return place < 24 ? shelf.get(place) : null;
        }
        long i = -2L - place;
        return i < basis.size() ? basis.get((int) i) : null;
    }

    private boolean full() {
        return !shelf.contains(null);
    }

    private int onShelf(Map<List<Integer>, Integer> f) {
        int place = shelf.indexOf(null);
        shelf.set(place, copy(f));
        return place;
    }

    private interface Work {
        Map<List<Integer>, Integer> make() throws Failure;
    }

    private int onShelf(boolean bad, Work work) {
        if (bad) {
            return BAD;
        }
        if (full()) {
            return FULL;
        }
        try {
            return onShelf(notLong(work.make()));
        } catch (Failure failure) {
            return failure.code;
        }
    }

    // ---- order, draft, shelf

    int order(int wanted) {
        if (wanted < 0 || wanted > 3) {
            return BAD;
        }
        if (!basis.isEmpty()) {
            return NOT;
        }
        int was = order;
        List<List<Map.Entry<List<Integer>, Integer>>> all = new ArrayList<>();
        for (int place = -1; place < 24; place++) {
            all.add(at(place) == null ? null : new ArrayList<>(at(place).entrySet()));
        }
        order = wanted;
        for (int place = -1; place < 24; place++) {
            if (all.get(place + 1) != null) {
                TreeMap<List<Integer>, Integer> f = nought();
                all.get(place + 1).forEach(t -> f.put(t.getKey(), t.getValue()));
                if (place < 0) {
                    draft = f;
                } else {
                    shelf.set(place, f);
                }
            }
        }
        return was;
    }

    int term(int number, int a, int b, int c, int d) {
        int[] exponents = {a, b, c, d};
        List<Integer> m = new ArrayList<>();
        for (int v = 0; v < 4; v++) {
            if (exponents[v] < 0 || exponents[v] > (v < n ? 30 : 0)) {
                return BAD;
            }
            if (v < n) {
                m.add(exponents[v]);
            }
        }
        TreeMap<List<Integer>, Integer> f = copy(draft);
        more(f, m, number);
        if (f.size() > 40) {
            return LONG;
        }
        draft = f;
        return f.size();
    }

    int keep() {
        if (full()) {
            return FULL;
        }
        int place = onShelf(draft);
        draft = nought();
        return place;
    }

    int drop(int place) {
        if (place < 0 || place > 23 || shelf.get(place) == null) {
            return BAD;
        }
        return shelf.set(place, null).size();
    }

    int terms(int place) {
        return at(place) == null ? BAD : at(place).size();
    }

    private Map.Entry<List<Integer>, Integer> termAt(int place, int t) {
        if (at(place) == null || t < 0 || t >= at(place).size()) {
            return null;
        }
        return new ArrayList<>(at(place).entrySet()).get(t);
    }

    int number(int place, int t) {
        return termAt(place, t) == null ? BAD : termAt(place, t).getValue();
    }

    int exponent(int place, int t, int v) {
        return termAt(place, t) == null || v < 0 || v >= n ? BAD : termAt(place, t).getKey().get(v);
    }

    // ---- sums, products

    int sum(int a, int b, int s) {
        return onShelf(at(a) == null || at(b) == null, () -> {
            TreeMap<List<Integer>, Integer> f = copy(at(a));
            at(b).forEach((m, number) -> more(f, m, (long) s * number));
            return f;
        });
    }

    int product(int a, int b) {
        return onShelf(at(a) == null || at(b) == null, () -> {
            TreeMap<List<Integer>, Integer> f = nought();
            for (Map.Entry<List<Integer>, Integer> t : at(a).entrySet()) {
                times(at(b), t.getKey(), t.getValue()).forEach((m, number) -> more(f, m, number));
            }
            return f;
        });
    }

    int derived(int a, int v) {
        return onShelf(at(a) == null || v < 0 || v >= n, () -> {
            TreeMap<List<Integer>, Integer> f = nought();
            at(a).forEach((m, number) -> {
                List<Integer> lower = new ArrayList<>(m);
                lower.set(v, m.get(v) - 1);
                more(f, lower, (long) number * m.get(v));
            });
            return f;
        });
    }

    int spair(int a, int b) {
        return onShelf(terms(a) <= 0 || terms(b) <= 0, () -> sOf(at(a), at(b)));
    }

    private long valueOf(Map<List<Integer>, Integer> f, int... point) {
        long sum = 0;
        for (Map.Entry<List<Integer>, Integer> t : f.entrySet()) {
            long product = t.getValue();
            for (int v = 0; v < n; v++) {
                for (int e = 0; e < t.getKey().get(v); e++) {
                    product = product * Math.floorMod(point[v], p) % p;
                }
            }
            sum += product;
        }
        return sum % p;
    }

    int value(int place, int x, int y, int z, int w) {
        return at(place) == null ? BAD : (int) valueOf(at(place), x, y, z, w);
    }

    int compare(int a, int b) {
        if (at(a) == null || at(b) == null) {
            return BAD;
        }
        for (int t = 0; t < 41; t++) {
            Map.Entry<List<Integer>, Integer> f = termAt(a, t);
            Map.Entry<List<Integer>, Integer> g = termAt(b, t);
            if (f == null || g == null) {
                return f == null ? g == null ? 0 : -1 : 1;
            }
            int how = byOrder(f.getKey(), g.getKey());
            how = how != 0 ? how : Integer.compare(f.getValue(), g.getValue());
            if (how != 0) {
                return how;
            }
        }
        throw new IllegalStateException();
    }

    // ---- the basis

    int fuel(int most) {
        if (most < 0 || most > 2000) {
            return BAD;
        }
        int was = fuel;
        fuel = most;
        return was;
    }

    int way(int wanted) {
        if (wanted < 0 || wanted > 1) {
            return BAD;
        }
        int was = way;
        way = wanted;
        return was;
    }

    int rules(int bits) {
        if (bits < 0 || bits > 3) {
            return BAD;
        }
        int was = rules;
        rules = bits;
        return was;
    }

    int enter(int place) {
        if (terms(place) <= 0) {
            return BAD;
        }
        if (basis.size() == 18) {
            return FULL;
        }
        tidied = false;
        return comes(at(place));
    }

    private int comes(TreeMap<List<Integer>, Integer> f) {
        basis.add(monic(f));
        int j = basis.size() - 1;
        for (int i = 0; i < j; i++) {
            pairs.add(new int[] {i, j});
        }
        return j;
    }

    int clear() {
        int had = basis.size();
        basis = new ArrayList<>();
        pairs.clear();
        tidied = false;
        return had;
    }

    private List<Integer> headOf(int i) {
        return basis.get(i).firstKey();
    }

    private List<Integer> multipleOf(int[] pair) {
        return multiple(headOf(pair[0]), headOf(pair[1]));
    }

    private boolean waits(int i, int k) {
        return pairs.stream().anyMatch(q -> q[0] == i && q[1] == k || q[0] == k && q[1] == i);
    }

    private boolean coprime(int[] pair) {
        for (int v = 0; v < n; v++) {
            if (headOf(pair[0]).get(v) > 0 && headOf(pair[1]).get(v) > 0) {
                return false;
            }
        }
        return true;
    }

    private boolean chained(int[] pair) {
        for (int k = 0; k < basis.size(); k++) {
            boolean other = k != pair[0] && k != pair[1];
            if (other && divides(headOf(k), multipleOf(pair)) && !waits(pair[0], k) && !waits(pair[1], k)) {
                return true;
            }
        }
        return false;
    }

    int work(int most) {
        if (most < 1 || most > 200) {
            return BAD;
        }
        counts[11] = 0;
        for (int done = 0; done < most; done++) {
            if (pairs.isEmpty()) {
                return done;
            }
            int[] pair = pairs.get(0);
            if (way == 1) {
                for (int[] q : pairs) {
                    if (byOrder(multipleOf(q), multipleOf(pair)) < 0) {
                        pair = q;
                    }
                }
            }
            used = 0;
            try {
                workOf(pair);
            } catch (Failure failure) {
                return failure.code;
            } finally {
                counts[11] = used;
            }
        }
        return most;
    }

    private void workOf(int[] pair) throws Failure {
        if ((rules & 1) != 0 && coprime(pair)) {
            counts[4]++;
        } else if ((rules & 2) != 0 && chained(pair)) {
            counts[5]++;
        } else {
            TreeMap<List<Integer>, Integer> r = leftOf(sOf(basis.get(pair[0]), basis.get(pair[1])), basis);
            if (!r.isEmpty() && basis.size() == 18) {
                throw new Failure(FULL);
            }
            counts[r.isEmpty() ? 7 : 6]++;
            if (!r.isEmpty()) {
                comes(r);
            }
        }
        pairs.remove(pair);
    }

    int tidy() {
        if (!pairs.isEmpty()) {
            return NOT;
        }
        List<TreeMap<List<Integer>, Integer>> those = new ArrayList<>();
        for (int i = 0; i < basis.size(); i++) {
            boolean gone = false;
            for (int k = 0; k < basis.size(); k++) {
                boolean alike = headOf(k).equals(headOf(i));
                gone |= k != i && divides(headOf(k), headOf(i)) && (!alike || k < i);
            }
            if (!gone) {
                those.add(basis.get(i));
            }
        }
        those.sort((f, g) -> byOrder(f.firstKey(), g.firstKey()));
        used = 0;
        try {
            for (int i = 0; i < those.size(); i++) {
                List<TreeMap<List<Integer>, Integer>> others = new ArrayList<>(those);
                TreeMap<List<Integer>, Integer> f = others.remove(i);
                TreeMap<List<Integer>, Integer> r = leftOf(f.tailMap(f.firstKey(), false), others);
                r.put(f.firstKey(), 1);
                those.set(i, notLong(r));
            }
        } catch (Failure failure) {
            return failure.code;
        } finally {
            counts[11] = used;
        }
        basis = those;
        tidied = true;
        return basis.size();
    }

    int left(int place) {
        if (at(place) == null) {
            return BAD;
        }
        used = 0;
        int answer = onShelf(false, () -> leftOf(at(place), basis));
        counts[11] = used;
        return answer;
    }

    int member(int place) {
        if (at(place) == null) {
            return BAD;
        }
        if (!tidied) {
            return NOT;
        }
        used = 0;
        try {
            return leftOf(at(place), basis).isEmpty() ? 1 : 0;
        } catch (Failure failure) {
            return failure.code;
        } finally {
            counts[11] = used;
        }
    }

    int pair(int k) {
        return k < 0 || k >= pairs.size() ? NONE : 100 * pairs.get(k)[0] + pairs.get(k)[1];
    }

    // ---- asked

    /** null, if they are more than 300. */
    private List<List<Integer>> those() {
        int[] box = new int[4];
        for (int v = 0; v < 4; v++) {
            box[v] = v < n ? 1000 : 1;
            for (int i = 0; i < basis.size(); i++) {
                if (v < n && total(headOf(i), 0, n) == headOf(i).get(v)) {
                    box[v] = Math.min(box[v], headOf(i).get(v));
                }
            }
            if (box[v] == 1000) {
                return null;
            }
        }
        List<List<Integer>> found = new ArrayList<>();
        for (int k = 0; k < box[0] * box[1] * box[2] * box[3] && found.size() <= 300; k++) {
            List<Integer> m = new ArrayList<>();
            int digits = k;
            for (int v = 0; v < n; v++) {
                m.add(digits % box[v]);
                digits /= box[v];
            }
            if (basis.stream().noneMatch(f -> divides(f.firstKey(), m))) {
                found.add(m);
            }
        }
        found.sort(this::byOrder);
        return found.size() > 300 ? null : found;
    }

    int standing() {
        if (!tidied) {
            return NOT;
        }
        List<List<Integer>> those = those();
        return those == null ? NONE : those.size();
    }

    int stands(int i, int v) {
        if (!tidied) {
            return NOT;
        }
        List<List<Integer>> those = those();
        return those == null || i < 0 || i >= those.size() || v < 0 || v >= n ? BAD : those.get(i).get(v);
    }

    int without(int k) {
        if (k < 0 || k > n) {
            return BAD;
        }
        if (!tidied) {
            return NOT;
        }
        return (int) basis.stream().filter(f -> f.keySet().stream().allMatch(m -> total(m, 0, k) == 0)).count();
    }

    int zeros() {
        long points = 1;
        for (int v = 0; v < n; v++) {
            points *= p;
        }
        if (points > 2500) {
            return NOT;
        }
        int zeros = 0;
        for (int k = 0; k < points; k++) {
            int[] point = {k % p, k / p % p, k / p / p % p, k / p / p / p};
            boolean all = true;
            for (int i = 0; all && i < basis.size(); i++) {
                all = valueOf(basis.get(i), point) == 0;
            }
            zeros += all ? 1 : 0;
        }
        return zeros;
    }

    int count(int what) {
        switch (what) {
            case 0: return p;
            case 1: return n;
            case 2: return basis.size();
            case 3: return pairs.size();
            case 9: return tidied ? 1 : 0;
            case 10: return (int) shelf.stream().filter(f -> f != null).count();
            default: return what < 0 || what > 11 ? BAD : counts[what];
        }
    }

    long digest() {
        long h = digest(17, draft);
        for (int place = 0; place < 24; place++) {
            if (shelf.get(place) != null) {
                h = digest(31 * h + place, shelf.get(place));
            }
        }
        for (TreeMap<List<Integer>, Integer> f : basis) {
            h = digest(h, f);
        }
        return h;
    }

    private static long digest(long h, Map<List<Integer>, Integer> f) {
        h = 31 * h + f.size();
        for (Map.Entry<List<Integer>, Integer> t : f.entrySet()) {
            h = 31 * h + t.getValue();
            for (int e : t.getKey()) {
                h = 31 * h + e;
            }
        }
        return h;
    }
}
