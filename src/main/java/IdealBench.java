import java.util.Arrays;

/** A bench for ideals, as ../shared/DOC.md promises it. Every row is made by the constructor; no call makes an object. */
public final class IdealBench {
    public static final int NONE = -1, BAD = -2, NOT = -3, FULL = -4, GREAT = -5, LONG = -6, SPENT = -7;

    private static final int DONE = 0;
    private static final int DRAFT_PLACE = -1;
    private static final int FIRST_BASIS_PLACE = -2;
    private static final int PLACES = 24;
    private static final int MOST_VARIABLES = 4;
    private static final int MOST_EXPONENT = 30;
    private static final int MOST_TERMS = 40;
    private static final int MOST_IN_BASIS = 18;
    private static final int MOST_PAIRS_WAITING = MOST_IN_BASIS * (MOST_IN_BASIS - 1) / 2;
    private static final int MOST_PAIRS_ASKED = 200;
    private static final int MOST_FUEL = 2000;
    private static final int MOST_STANDING = 300;
    private static final int MOST_POINTS = 2500;
    private static final int LEX = 0;
    private static final int GRADED = 1;
    private static final int REVERSED = 2;
    private static final int SPLIT = 3;
    private static final int COPRIME = 1;
    private static final int CHAIN = 2;

    private final Ring ring;
    private final Poly draft;
    private final Poly unit;
    private final Poly result;
    private final Shelf shelf;
    private final Reducer reducer;
    private final Basis basis;
    private final Stair stair;

    public IdealBench(int p, int n) {
        ring = new Ring(isPrimeInRange(p) ? p : 7, n >= 1 && n <= MOST_VARIABLES ? n : 3);
        draft = new Poly();
        unit = new Poly();
        unit.push(1, 0);
        result = new Poly();
        shelf = new Shelf();
        reducer = new Reducer(ring);
        basis = new Basis(ring, reducer);
        stair = new Stair(ring, basis);
    }

    // ---- order, draft, shelf

    public int order(int order) {
        if (order < LEX || order > SPLIT) {
            return BAD;
        }
        if (basis.size > 0) {
            return NOT;
        }
        int was = ring.order;
        ring.order = order;
        ring.sortTerms(draft);
        for (int place = 0; place < PLACES; place++) {
            Poly held = shelf.at(place);
            if (held != null) {
                ring.sortTerms(held);
            }
        }
        return was;
    }

    public int term(int number, int a, int b, int c, int d) {
        if (!ring.mayBeExponent(a, 0) || !ring.mayBeExponent(b, 1) || !ring.mayBeExponent(c, 2) || !ring.mayBeExponent(d, 3)) {
            return BAD;
        }
        int failure = ring.addMultiple(result, draft, unit, ring.restOf(number), Mono.of(a, b, c, d));
        if (failure != DONE) {
            return failure;
        }
        draft.copyOf(result);
        return draft.size;
    }

    public int keep() {
        if (shelf.isFull()) {
            return FULL;
        }
        int place = shelf.put(draft);
        draft.size = 0;
        return place;
    }

    public int drop(int place) {
        Poly held = shelf.at(place);
        if (held == null) {
            return BAD;
        }
        shelf.free(place);
        return held.size;
    }

    public int terms(int place) {
        Poly f = polyAt(place);
        return f == null ? BAD : f.size;
    }

    public int number(int place, int t) {
        Poly f = polyAt(place);
        return f == null || t < 0 || t >= f.size ? BAD : f.numbers[t];
    }

    public int exponent(int place, int t, int v) {
        Poly f = polyAt(place);
        return f == null || t < 0 || t >= f.size || !ring.hasVariable(v) ? BAD : Mono.exponentOf(f.monos[t], v);
    }

    // ---- sums, products

    public int sum(int a, int b, int s) {
        Poly f = polyAt(a);
        Poly g = polyAt(b);
        if (f == null || g == null) {
            return BAD;
        }
        if (shelf.isFull()) {
            return FULL;
        }
        return putResult(ring.addMultiple(result, f, g, ring.restOf(s), 0));
    }

    public int product(int a, int b) {
        Poly f = polyAt(a);
        Poly g = polyAt(b);
        if (f == null || g == null) {
            return BAD;
        }
        if (shelf.isFull()) {
            return FULL;
        }
        return putResult(ring.multiply(result, f, g));
    }

    public int derived(int a, int v) {
        Poly f = polyAt(a);
        if (f == null || !ring.hasVariable(v)) {
            return BAD;
        }
        if (shelf.isFull()) {
            return FULL;
        }
        return putResult(ring.derive(result, f, v));
    }

    public int spair(int a, int b) {
        Poly f = polyAt(a);
        Poly g = polyAt(b);
        if (f == null || g == null || f.size == 0 || g.size == 0) {
            return BAD;
        }
        if (shelf.isFull()) {
            return FULL;
        }
        return putResult(ring.makeS(result, f, g));
    }

    public int value(int place, int x, int y, int z, int w) {
        Poly f = polyAt(place);
        if (f == null) {
            return BAD;
        }
        ring.setPoint(0, x);
        ring.setPoint(1, y);
        ring.setPoint(2, z);
        ring.setPoint(3, w);
        return ring.valueAtPoint(f);
    }

    public int compare(int a, int b) {
        Poly f = polyAt(a);
        Poly g = polyAt(b);
        return f == null || g == null ? BAD : ring.comparePolys(f, g);
    }

    // ---- the basis

    public int fuel(int most) {
        if (most < 0 || most > MOST_FUEL) {
            return BAD;
        }
        int was = reducer.fuel;
        reducer.fuel = most;
        return was;
    }

    public int way(int way) {
        if (way < 0 || way > 1) {
            return BAD;
        }
        int was = basis.way;
        basis.way = way;
        return was;
    }

    public int rules(int bits) {
        if (bits < 0 || bits > (COPRIME | CHAIN)) {
            return BAD;
        }
        int was = basis.rules;
        basis.rules = bits;
        return was;
    }

    public int enter(int place) {
        Poly f = polyAt(place);
        if (f == null || f.size == 0) {
            return BAD;
        }
        if (basis.isFull()) {
            return FULL;
        }
        basis.isTidy = false;
        return basis.take(f);
    }

    public int clear() {
        return basis.empty();
    }

    public int work(int pairs) {
        if (pairs < 1 || pairs > MOST_PAIRS_ASKED) {
            return BAD;
        }
        reducer.begin();
        int done = 0;
        while (done < pairs && basis.pairs.size > 0) {
            int failure = basis.workNext();
            if (failure != DONE) {
                return failure;
            }
            done++;
        }
        return done;
    }

    public int tidy() {
        return basis.pairs.size > 0 ? NOT : basis.makeTidy();
    }

    public int left(int place) {
        Poly f = polyAt(place);
        if (f == null) {
            return BAD;
        }
        reducer.begin();
        if (shelf.isFull()) {
            return FULL;
        }
        int failure = reducer.leave(f, basis.rows, basis.size, NONE);
        return failure != DONE ? failure : shelf.put(reducer.r);
    }

    public int member(int place) {
        Poly f = polyAt(place);
        if (f == null) {
            return BAD;
        }
        if (!basis.isTidy) {
            return NOT;
        }
        reducer.begin();
        int failure = reducer.leave(f, basis.rows, basis.size, NONE);
        if (failure != DONE) {
            return failure;
        }
        return reducer.r.size == 0 ? 1 : 0;
    }

    public int pair(int k) {
        Pairs pairs = basis.pairs;
        return k < 0 || k >= pairs.size ? NONE : 100 * pairs.firsts[k] + pairs.seconds[k];
    }

    // ---- asked

    public int standing() {
        return basis.isTidy ? stair.find() : NOT;
    }

    public int stands(int i, int v) {
        if (!basis.isTidy) {
            return NOT;
        }
        int many = stair.find();
        return i < 0 || i >= many || !ring.hasVariable(v) ? BAD : Mono.exponentOf(stair.monos[i], v);
    }

    public int without(int k) {
        if (k < 0 || k > ring.n) {
            return BAD;
        }
        return basis.isTidy ? basis.countWithoutFirst(k) : NOT;
    }

    public int zeros() {
        int points = ring.pointsUpTo(MOST_POINTS);
        if (points > MOST_POINTS) {
            return NOT;
        }
        int found = 0;
        for (int k = 0; k < points; k++) {
            ring.setPointNumber(k);
            if (basis.isZeroAtPoint()) {
                found++;
            }
        }
        return found;
    }

    public int count(int what) {
        switch (what) {
            case 0: return ring.p;
            case 1: return ring.n;
            case 2: return basis.size;
            case 3: return basis.pairs.size;
            case 4: return basis.passedCoprime;
            case 5: return basis.passedChain;
            case 6: return basis.leftSomething;
            case 7: return basis.leftNothing;
            case 8: return reducer.madeInAll;
            case 9: return basis.isTidy ? 1 : 0;
            case 10: return shelf.held;
            case 11: return reducer.made;
            default: return BAD;
        }
    }

    public long digest() {
        long h = digestOf(17, draft);
        for (int place = 0; place < PLACES; place++) {
            Poly f = shelf.at(place);
            if (f != null) {
                h = digestOf(31 * h + place, f);
            }
        }
        for (int i = 0; i < basis.size; i++) {
            h = digestOf(h, basis.rows[i]);
        }
        return h;
    }

    private long digestOf(long before, Poly f) {
        long h = 31 * before + f.size;
        for (int t = 0; t < f.size; t++) {
            h = 31 * h + f.numbers[t];
            for (int v = 0; v < ring.n; v++) {
                h = 31 * h + Mono.exponentOf(f.monos[t], v);
            }
        }
        return h;
    }

    /** The polynomial at a place of the shelf, the draft's or the basis's; null if there is none. */
    private Poly polyAt(int place) {
        if (place == DRAFT_PLACE) {
            return draft;
        }
        return place <= FIRST_BASIS_PLACE ? basis.at(FIRST_BASIS_PLACE - place) : shelf.at(place);
    }

    private int putResult(int failure) {
        return failure != DONE ? failure : shelf.put(result);
    }

    private static boolean isPrimeInRange(int p) {
        if (p < 2 || p > 251) {
            return false;
        }
        for (int d = 2; d < p; d++) {
            if (p % d == 0) {
                return false;
            }
        }
        return true;
    }

    /**
     * Monomials as ints, a byte for the exponent of each variable: a byte has room for the sum of two exponents,
     * so that a product is a sum of ints, and its top bit is free to tell of each byte how a reckoning ended.
     */
    private static final class Mono {
        private static final int TOP_BITS = 0x80808080;
        /** What lifts 31, but not 30, into the top bit of each byte. */
        private static final int TO_TOP = 0x61616161;

        static int of(int a, int b, int c, int d) {
            return a | (b << 8) | (c << 16) | (d << 24);
        }

        static int variable(int v) {
            return 1 << (8 * v);
        }

        static int exponentOf(int mono, int v) {
            return (mono >>> (8 * v)) & 255;
        }

        static boolean isGreat(int mono) {
            return ((mono + TO_TOP) & TOP_BITS) != 0;
        }

        static boolean divides(int a, int b) {
            return (((b | TOP_BITS) - a) & TOP_BITS) == TOP_BITS;
        }

        static int leastMultiple(int a, int b) {
            int m = 0;
            for (int v = 0; v < MOST_VARIABLES; v++) {
                m += Math.max(exponentOf(a, v), exponentOf(b, v)) * variable(v);
            }
            return m;
        }
    }

    /** A row of terms, the greatest first by the order of the ring. */
    private static final class Poly {
        final int[] numbers = new int[MOST_TERMS];
        final int[] monos = new int[MOST_TERMS];
        int size;

        /** Whether there was room for one more. */
        boolean push(int number, int mono) {
            if (size >= MOST_TERMS) {
                return false;
            }
            numbers[size] = number;
            monos[size] = mono;
            size++;
            return true;
        }

        void copyOf(Poly other) {
            copyFrom(other, 0);
        }

        /** Becomes the other one (it may be this one) without its first terms. */
        void copyFrom(Poly other, int first) {
            int end = other.size;
            size = 0;
            for (int t = first; t < end; t++) {
                push(other.numbers[t], other.monos[t]);
            }
        }

        void dropHead() {
            copyFrom(this, 1);
        }

        /** The first monomial; of nought, that has none, the one without a variable. */
        int head() {
            return size > 0 ? monos[0] : 0;
        }
    }

    /** The polynomials over the field of p numbers in n variables, and how they are reckoned with. */
    private static final class Ring {
        final int p;
        final int n;
        int order = REVERSED;
        /** The numbers of the variables at the point that was set. */
        private final int[] point = new int[MOST_VARIABLES];
        /** Of each term of a product's first factor the term of the second that it meets next. */
        private final int[] meets = new int[MOST_TERMS];
        private final Poly nought = new Poly();
        private final Poly firstMultiple = new Poly();

        Ring(int p, int n) {
            this.p = p;
            this.n = n;
        }

        boolean hasVariable(int v) {
            return v >= 0 && v < n;
        }

        boolean mayBeExponent(int e, int v) {
            return e >= 0 && e <= (hasVariable(v) ? MOST_EXPONENT : 0);
        }

        int restOf(int number) {
            return Math.floorMod(number, p);
        }

        int power(int number, int exponent) {
            int product = 1;
            int square = number;
            for (int bits = exponent; bits > 0; bits >>= 1) {
                if ((bits & 1) == 1) {
                    product = product * square % p;
                }
                square = square * square % p;
            }
            return product;
        }

        /** By Fermat's theorem. */
        int inverse(int number) {
            return power(number, p - 2);
        }

        /** An int from 0 that is greater for the greater monomial, so that ints are compared in place of exponents. */
        int rank(int mono) {
            int a = mono & 255;
            int b = (mono >>> 8) & 255;
            int c = (mono >>> 16) & 255;
            int d = mono >>> 24;
            int all = (a + b + c + d) << 20;
            int lex = (a << 15) | (b << 10) | (c << 5) | d;
            switch (order) {
                case LEX: return lex;
                case GRADED: return all | lex;
                case REVERSED: return all | ((31 - d) << 15) | ((31 - c) << 10) | ((31 - b) << 5) | (31 - a);
                default: return ((a + b) << 16) | ((31 - b) << 11) | ((c + d) << 5) | (31 - d);
            }
        }

        void sortTerms(Poly f) {
            for (int t = 1; t < f.size; t++) {
                int number = f.numbers[t];
                int mono = f.monos[t];
                int to = t;
                while (to > 0 && rank(f.monos[to - 1]) < rank(mono)) {
                    f.numbers[to] = f.numbers[to - 1];
                    f.monos[to] = f.monos[to - 1];
                    to--;
                }
                f.numbers[to] = number;
                f.monos[to] = mono;
            }
        }

        int comparePolys(Poly f, Poly g) {
            int both = Math.min(f.size, g.size);
            for (int t = 0; t < both; t++) {
                if (f.monos[t] != g.monos[t]) {
                    return Integer.compare(rank(f.monos[t]), rank(g.monos[t]));
                }
                if (f.numbers[t] != g.numbers[t]) {
                    return Integer.compare(f.numbers[t], g.numbers[t]);
                }
            }
            return Integer.compare(f.size, g.size);
        }

        /** a more by number times mono times b comes into a third row: DONE, GREAT or LONG. */
        int addMultiple(Poly into, Poly a, Poly b, int number, int mono) {
            if (isMultipleGreat(b, mono)) {
                return GREAT;
            }
            into.size = 0;
            int i = 0;
            int j = 0;
            for (int steps = a.size + b.size; steps > 0; steps--) {
                // behind the last term a rank below all others
                int rankA = i < a.size ? rank(a.monos[i]) : -1;
                int rankB = j < b.size ? rank(b.monos[j] + mono) : -1;
                int sum = 0;
                int monomial = 0;
                if (i < a.size && rankA >= rankB) {
                    monomial = a.monos[i];
                    sum = a.numbers[i];
                    i++;
                }
                if (j < b.size && rankB >= rankA) {
                    monomial = b.monos[j] + mono;
                    sum = restOf(sum + number * b.numbers[j]);
                    j++;
                }
                if (sum != 0 && !into.push(sum, monomial)) {
                    return LONG;
                }
            }
            return DONE;
        }

        private static boolean isMultipleGreat(Poly f, int mono) {
            for (int t = 0; t < f.size; t++) {
                if (Mono.isGreat(f.monos[t] + mono)) {
                    return true;
                }
            }
            return false;
        }

        /**
         * The product comes into a third row. It is made from its greatest monomial down, so that the 41st term
         * tells LONG and no row is needed for the up to 1600 products of terms.
         */
        int multiply(Poly into, Poly a, Poly b) {
            for (int i = 0; i < a.size; i++) {
                if (isMultipleGreat(b, a.monos[i])) {
                    return GREAT;
                }
            }
            into.size = 0;
            Arrays.fill(meets, 0);
            for (int products = a.size * b.size; products > 0; products--) {
                int mono = greatestToMeet(a, b);
                if (mono < 0) {
                    return DONE;
                }
                int number = takeProducts(a, b, mono);
                if (number != 0 && !into.push(number, mono)) {
                    return LONG;
                }
            }
            return DONE;
        }

        /** NONE, if all products are taken. */
        private int greatestToMeet(Poly a, Poly b) {
            int greatest = NONE;
            for (int i = 0; i < a.size; i++) {
                if (meets[i] < b.size) {
                    int mono = a.monos[i] + b.monos[meets[i]];
                    if (greatest < 0 || rank(mono) > rank(greatest)) {
                        greatest = mono;
                    }
                }
            }
            return greatest;
        }

        private int takeProducts(Poly a, Poly b, int mono) {
            int sum = 0;
            for (int i = 0; i < a.size; i++) {
                int j = meets[i];
                if (j < b.size && a.monos[i] + b.monos[j] == mono) {
                    sum = restOf(sum + a.numbers[i] * b.numbers[j]);
                    meets[i]++;
                }
            }
            return sum;
        }

        /** The terms stay in order: what is left of each is it divided by the same variable. */
        int derive(Poly into, Poly f, int v) {
            into.size = 0;
            for (int t = 0; t < f.size; t++) {
                int exponent = Mono.exponentOf(f.monos[t], v);
                int number = restOf(f.numbers[t] * exponent);
                if (number != 0) {
                    into.push(number, f.monos[t] - Mono.variable(v));
                }
            }
            return DONE;
        }

        /** The S of two that are not nought. */
        int makeS(Poly into, Poly f, Poly g) {
            int m = Mono.leastMultiple(f.head(), g.head());
            int failure = addMultiple(firstMultiple, nought, f, inverse(f.numbers[0]), m - f.head());
            if (failure != DONE) {
                return failure;
            }
            return addMultiple(into, firstMultiple, g, p - inverse(g.numbers[0]), m - g.head());
        }

        void makeMonic(Poly f) {
            if (f.size == 0 || f.numbers[0] == 1) {
                return;
            }
            int inverse = inverse(f.numbers[0]);
            for (int t = 0; t < f.size; t++) {
                f.numbers[t] = restOf(f.numbers[t] * inverse);
            }
        }

        void setPoint(int v, int x) {
            point[v] = restOf(x);
        }

        /** Point k: its numbers are the digits of k to the base p. */
        void setPointNumber(int k) {
            int digits = k;
            for (int v = 0; v < n; v++) {
                setPoint(v, digits % p);
                digits = digits / p;
            }
        }

        /** How many points there are; any number above the bound, if they are more. */
        int pointsUpTo(int bound) {
            int points = 1;
            for (int v = 0; v < n && points <= bound; v++) {
                points *= p;
            }
            return points;
        }

        int valueAtPoint(Poly f) {
            int sum = 0;
            for (int t = 0; t < f.size; t++) {
                int product = f.numbers[t];
                for (int v = 0; v < n; v++) {
                    product = restOf(product * power(point[v], Mono.exponentOf(f.monos[t], v)));
                }
                sum = restOf(sum + product);
            }
            return sum;
        }
    }

    /** Places that hold a polynomial or nothing. */
    private static final class Shelf {
        private final Poly[] polys = new Poly[PLACES];
        private final boolean[] holds = new boolean[PLACES];
        int held;

        Shelf() {
            for (int place = 0; place < PLACES; place++) {
                polys[place] = new Poly();
            }
        }

        /** null, if there is no such place or it holds nothing. */
        Poly at(int place) {
            return place >= 0 && place < PLACES && holds[place] ? polys[place] : null;
        }

        boolean isFull() {
            return held == PLACES;
        }

        /** A copy comes to the least free place. */
        int put(Poly f) {
            for (int place = 0; place < PLACES; place++) {
                if (!holds[place]) {
                    polys[place].copyOf(f);
                    holds[place] = true;
                    held++;
                    return place;
                }
            }
            return FULL;
        }

        void free(int place) {
            if (at(place) != null) {
                holds[place] = false;
                held--;
            }
        }
    }

    /** What is left of a polynomial by a row of monic ones, with fuel. */
    private static final class Reducer {
        private static final int MOST_STEPS = MOST_FUEL + MOST_TERMS + 1;

        private final Ring ring;
        private Poly h = new Poly();
        private Poly lessened = new Poly();
        /** What was left, if the latest leave() was DONE. */
        final Poly r = new Poly();
        int fuel = 500;
        /** Reductions since the latest begin(), and since the beginning. */
        int made;
        int madeInAll;

        Reducer(Ring ring) {
            this.ring = ring;
        }

        /** The fuel is whole again. */
        void begin() {
            made = 0;
        }

        /** By the first ones of a row but for the one numbered as except (NONE: by all of them): DONE or a failure. */
        int leave(Poly f, Poly[] row, int size, int except) {
            h.copyOf(f);
            r.size = 0;
            for (int step = 0; step < MOST_STEPS && h.size > 0; step++) {
                int by = firstDividing(row, size, except);
                int failure = by == NONE ? moveHead() : lessenBy(row[by]);
                if (failure != DONE) {
                    return failure;
                }
            }
            return DONE;
        }

        private int firstDividing(Poly[] row, int size, int except) {
            for (int k = 0; k < size; k++) {
                if (k != except && Mono.divides(row[k].head(), h.head())) {
                    return k;
                }
            }
            return NONE;
        }

        private int moveHead() {
            if (!r.push(h.numbers[0], h.monos[0])) {
                return LONG;
            }
            h.dropHead();
            return DONE;
        }

        /** Counted as soon as there is fuel for it: one that ends GREAT or LONG was made, too. */
        private int lessenBy(Poly g) {
            if (made >= fuel) {
                return SPENT;
            }
            made++;
            madeInAll++;
            int failure = ring.addMultiple(lessened, h, g, ring.p - h.numbers[0], h.head() - g.head());
            if (failure != DONE) {
                return failure;
            }
            Poly used = h;
            h = lessened;
            lessened = used;
            return DONE;
        }
    }

    /** The pairs that wait, in the order in which they came. */
    private static final class Pairs {
        final int[] firsts = new int[MOST_PAIRS_WAITING];
        final int[] seconds = new int[MOST_PAIRS_WAITING];
        int size;

        void comeWith(int newest) {
            for (int i = 0; i < newest && size < MOST_PAIRS_WAITING; i++) {
                firsts[size] = i;
                seconds[size] = newest;
                size++;
            }
        }

        void remove(int k) {
            for (int t = k; t < size - 1; t++) {
                firsts[t] = firsts[t + 1];
                seconds[t] = seconds[t + 1];
            }
            size--;
        }

        boolean waits(int a, int b) {
            int first = Math.min(a, b);
            int second = Math.max(a, b);
            for (int t = 0; t < size; t++) {
                if (firsts[t] == first && seconds[t] == second) {
                    return true;
                }
            }
            return false;
        }
    }

    /** The basis: monic polynomials, made more pair by pair, then tidied. */
    private static final class Basis {
        private final Ring ring;
        private final Reducer reducer;
        final Pairs pairs = new Pairs();
        Poly[] rows = new Poly[MOST_IN_BASIS];
        /** Where a basis is tidied, so that a failure leaves the rows as they were. */
        private Poly[] spare = new Poly[MOST_IN_BASIS];
        private final int[] stay = new int[MOST_IN_BASIS];
        private final Poly begun = new Poly();
        int size;
        boolean isTidy;
        int way;
        int rules;
        int passedCoprime;
        int passedChain;
        int leftSomething;
        int leftNothing;

        Basis(Ring ring, Reducer reducer) {
            this.ring = ring;
            this.reducer = reducer;
            for (int i = 0; i < MOST_IN_BASIS; i++) {
                rows[i] = new Poly();
                spare[i] = new Poly();
            }
        }

        Poly at(int i) {
            return i >= 0 && i < size ? rows[i] : null;
        }

        boolean isFull() {
            return size >= MOST_IN_BASIS;
        }

        int empty() {
            int had = size;
            size = 0;
            pairs.size = 0;
            isTidy = false;
            return had;
        }

        /** One that is not nought comes in, monic: its number, or FULL. */
        int take(Poly f) {
            if (isFull()) {
                return FULL;
            }
            int number = size;
            rows[number].copyOf(f);
            ring.makeMonic(rows[number]);
            size++;
            pairs.comeWith(number);
            return number;
        }

        /** The next pair is done (one waits): DONE, or what it met; then it waits still. */
        int workNext() {
            reducer.begin();
            int k = nextPair();
            if ((rules & COPRIME) != 0 && isCoprime(k)) {
                passedCoprime++;
            } else if ((rules & CHAIN) != 0 && isChained(k)) {
                passedChain++;
            } else {
                int failure = reduceS(k);
                if (failure != DONE) {
                    return failure;
                }
            }
            pairs.remove(k);
            return DONE;
        }

        private int nextPair() {
            int next = 0;
            if (way == 1) {
                for (int k = 1; k < pairs.size; k++) {
                    if (ring.rank(multipleOf(k)) < ring.rank(multipleOf(next))) {
                        next = k;
                    }
                }
            }
            return next;
        }

        private int multipleOf(int k) {
            return Mono.leastMultiple(rows[pairs.firsts[k]].head(), rows[pairs.seconds[k]].head());
        }

        private boolean isCoprime(int k) {
            return multipleOf(k) == rows[pairs.firsts[k]].head() + rows[pairs.seconds[k]].head();
        }

        private boolean isChained(int pair) {
            int i = pairs.firsts[pair];
            int j = pairs.seconds[pair];
            int multiple = multipleOf(pair);
            for (int k = 0; k < size; k++) {
                if (k != i && k != j && Mono.divides(rows[k].head(), multiple) && !pairs.waits(i, k) && !pairs.waits(j, k)) {
                    return true;
                }
            }
            return false;
        }

        /** What is left of the S of a pair comes in; its new pairs come behind those that wait. */
        private int reduceS(int k) {
            int failure = ring.makeS(begun, rows[pairs.firsts[k]], rows[pairs.seconds[k]]);
            if (failure == DONE) {
                failure = reducer.leave(begun, rows, size, NONE);
            }
            if (failure != DONE) {
                return failure;
            }
            if (reducer.r.size == 0) {
                leftNothing++;
                return DONE;
            }
            if (take(reducer.r) == FULL) {
                return FULL;
            }
            leftSomething++;
            return DONE;
        }

        /** Of a basis for which no pair waits: how many it has then, or a failure. */
        int makeTidy() {
            reducer.begin();
            int kept = sortThoseThatStay();
            for (int i = 0; i < kept; i++) {
                spare[i].copyOf(rows[stay[i]]);
            }
            for (int i = 0; i < kept; i++) {
                int failure = reduceTail(i, kept);
                if (failure != DONE) {
                    return failure;
                }
            }
            Poly[] untidied = rows;
            rows = spare;
            spare = untidied;
            size = kept;
            isTidy = true;
            return kept;
        }

        /** Their numbers come into stay, that with the least head first. */
        private int sortThoseThatStay() {
            int kept = 0;
            for (int i = 0; i < size; i++) {
                if (!isNeedless(i)) {
                    int to = kept;
                    while (to > 0 && ring.rank(rows[stay[to - 1]].head()) > ring.rank(rows[i].head())) {
                        stay[to] = stay[to - 1];
                        to--;
                    }
                    stay[to] = i;
                    kept++;
                }
            }
            return kept;
        }

        private boolean isNeedless(int i) {
            int head = rows[i].head();
            for (int k = 0; k < size; k++) {
                int other = rows[k].head();
                if (k != i && Mono.divides(other, head) && (other != head || k < i)) {
                    return true;
                }
            }
            return false;
        }

        private int reduceTail(int i, int kept) {
            Poly f = spare[i];
            begun.copyFrom(f, 1);
            int failure = reducer.leave(begun, spare, kept, i);
            if (failure != DONE) {
                return failure;
            }
            f.size = 1;
            for (int t = 0; t < reducer.r.size; t++) {
                if (!f.push(reducer.r.numbers[t], reducer.r.monos[t])) {
                    return LONG;
                }
            }
            return DONE;
        }

        int countWithoutFirst(int k) {
            int found = 0;
            for (int i = 0; i < size; i++) {
                if (!hasOneOfFirst(rows[i], k)) {
                    found++;
                }
            }
            return found;
        }

        private static boolean hasOneOfFirst(Poly f, int k) {
            for (int t = 0; t < f.size; t++) {
                for (int v = 0; v < k; v++) {
                    if (Mono.exponentOf(f.monos[t], v) > 0) {
                        return true;
                    }
                }
            }
            return false;
        }

        boolean isZeroAtPoint() {
            for (int i = 0; i < size; i++) {
                if (ring.valueAtPoint(rows[i]) != 0) {
                    return false;
                }
            }
            return true;
        }

        boolean hasHeadDividing(int mono) {
            for (int i = 0; i < size; i++) {
                if (Mono.divides(rows[i].head(), mono)) {
                    return true;
                }
            }
            return false;
        }
    }

    /** The monomials under the stair of the basis's heads. */
    private static final class Stair {
        private final Ring ring;
        private final Basis basis;
        /** The least first. */
        final int[] monos = new int[MOST_STANDING];

        Stair(Ring ring, Basis basis) {
            this.ring = ring;
            this.basis = basis;
        }

        /** Finds those that stand: how many; NONE, if they are too many. */
        int find() {
            int found = 0;
            int mono = basis.hasHeadDividing(0) ? NONE : 0;
            while (mono >= 0) {
                // no head has an exponent above 30: beyond it nothing stops that variable, they are endlessly many
                if (found >= MOST_STANDING || Mono.isGreat(mono)) {
                    return NONE;
                }
                insert(mono, found);
                found++;
                mono = nextBehind(mono);
            }
            return found;
        }

        /** The next in the order of an odometer; what a head divides is passed over with all that it divides. */
        private int nextBehind(int mono) {
            int next = mono;
            for (int v = ring.n - 1; v >= 0; v--) {
                next += Mono.variable(v);
                if (!basis.hasHeadDividing(next)) {
                    return next;
                }
                next -= Mono.exponentOf(next, v) * Mono.variable(v);
            }
            return NONE;
        }

        private void insert(int mono, int among) {
            int rank = ring.rank(mono);
            int to = among;
            while (to > 0 && ring.rank(monos[to - 1]) > rank) {
                monos[to] = monos[to - 1];
                to--;
            }
            monos[to] = mono;
        }
    }
}
