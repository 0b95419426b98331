import java.util.Random;
import java.util.TreeMap;

/** Long runs of calls of all kinds: each answers as the plain model of the document does. */
public final class ModelTest {
    private static final int RUNS = 3000;
    private static final int MOST_CALLS = 512;
    /** Of whole(), and of what is asked at the end of a run. */
    private static final int CALLS_OF_WHOLE = 300, CALLS_AT_END = 16;
    private static final int NONE = -1;
    private static final int TIDY = 19, LEFT = 20, MEMBER = 21, STANDING = 23, WITHOUT = 25, ZEROS = 26, DIGEST = 28;
    private static final String[] NAMES = {
        "order", "term", "keep", "drop", "terms", "number", "exponent", "sum", "product", "derived", "spair", "value",
        "compare", "fuel", "way", "rules", "enter", "clear", "work", "tidy", "left", "member", "pair", "standing",
        "stands", "without", "zeros", "count", "digest"
    };
    /** What each call is to have answered in some run: so many kinds of refusals, told by their numbers. */
    private static final String[] REFUSALS = {
        "23", "26", "4", "2", "2", "2", "2", "246", "2456", "24", "2456", "2",
        "12", "2", "2", "2", "24", "", "24567", "3567", "24567", "23567", "1", "13",
        "23", "23", "3", "2", ""
    };

    private final Random random;
    private final Model model;
    private final IdealBench bench;
    private final int n;
    /** What a run is about: 0 small ones, 1 long ones, 2 great exponents, 3 one or two TERMS. */
    private final int kind;
    /** That the object has had. */
    private int calls = 0;
    private static final TreeMap<String, Integer> answered = new TreeMap<>();
    private static int wrong = 0;

    private ModelTest(int seed) {
        random = new Random(seed);
        int[] primes = {2, 3, 5, 7, 7, 7, 11, 13, 31, 47, 53, 101, 251, 4, 9, 1};
        int p = primes[random.nextInt(primes.length)];
        int variables = random.nextInt(12) == 0 ? random.nextInt(9) - 2 : 1 + random.nextInt(4);
        model = new Model(p, variables);
        bench = new IdealBench(p, variables);
        n = model.count(1);
        kind = random.nextInt(4);
    }

    private int any() {
        int[] far = {Integer.MIN_VALUE, Integer.MAX_VALUE, -1, 31, 255, 256, 24, -20, 1 << 24};
        return far[random.nextInt(far.length)];
    }

    private int number() {
        return random.nextInt(20) == 0 ? random.nextInt() : random.nextInt(16) - 4;
    }

    private int exponent(int v) {
        if (random.nextInt(300) == 0) {
            return any();
        }
        if (v >= n || random.nextInt(3) == 0) {
            return 0;
        }
        int most = kind == 0 ? 3 : kind == 1 ? 6 : kind == 2 ? 31 : 12;
        return kind == 2 && random.nextInt(2) == 0 ? 30 - random.nextInt(3) : random.nextInt(most);
    }

    private int place() {
        int r = random.nextInt(100);
        if (r < 2) {
            return any();
        }
        if (r < 12) {
            return -1;
        }
        if (r < 30) {
            return -2 - random.nextInt(model.count(2) + 1);
        }
        return random.nextInt(Math.min(24, model.count(10) + 1));
    }

    private int below(int bound) {
        return random.nextInt(25) == 0 ? any() : random.nextInt(bound + 1) - (random.nextInt(15) == 0 ? 1 : 0);
    }

    /** Of one call of the object. */
    private void same(int run, int call, String told, long got, long due) {
        calls++;
        if (got != due) {
            wrong++;
            if (wrong < 40) {
                System.out.println("run " + run + ", call " + call + ": " + told + " answered " + got + ", due is " + due);
            }
        }
    }

    private int next() {
        int[] weights = {
            1, 30, 12, 6, 3, 4, 4, 6, 5, 4, 5, 3,
            4, 2, 1, 2, 9, 2, 9, 6, 6, 6, 3, 3,
            3, 2, 1, 6, 3
        };
        if (kind == 1) {
            weights[1] = 120;
            weights[2] = 4;
        }
        int all = 0;
        for (int weight : weights) {
            all += weight;
        }
        int r = random.nextInt(all);
        int which = 0;
        while (r >= weights[which]) {
            r -= weights[which++];
        }
        return which;
    }

    /**
     * Behind each other the calls that make a basis, tidy it and ask of it: without them few runs come so far.
     * Half of them begin with heads that are powers of unlike variables, so that the basis does not soon hold 1.
     */
    private void whole(int run, int call) {
        same(run, call, "clear", bench.clear(), model.clear());
        int fuel = random.nextInt(3) == 0 ? random.nextInt(40) : 300 + random.nextInt(1700);
        int rules = random.nextInt(4);
        boolean powers = random.nextBoolean();
        rules |= powers ? 1 : 0;
        same(run, call, "fuel", bench.fuel(2000), model.fuel(2000));
        same(run, call, "rules", bench.rules(rules), model.rules(rules));
        int many = 1 + random.nextInt(n + 2);
        int most = new int[] {1, 2, 3, 4, 30}[random.nextInt(5)];
        for (int k = 0; k < many; k++) {
            enterOne(run, call, most, powers && k < n ? k : NONE);
        }
        for (int k = 0; k < 3; k++) {
            same(run, call, "work", bench.work(200), model.work(200));
        }
        same(run, call, "fuel", bench.fuel(fuel), model.fuel(fuel));
        int standing = model.standing();
        call(run, call, TIDY);
        call(run, call, STANDING);
        for (int k = 0; k < 8; k++) {
            int i = standing > 0 ? random.nextInt(standing + 1) : random.nextInt(9);
            int v = random.nextInt(n);
            same(run, call, "stands " + i + " " + v, bench.stands(i, v), model.stands(i, v));
        }
        for (int which : new int[] {MEMBER, LEFT, MEMBER, WITHOUT, ZEROS, TIDY, DIGEST}) {
            call(run, call, which);
        }
    }

    private void enterOne(int run, int call, int most, int powerOf) {
        int drop = random.nextInt(24);
        same(run, call, "drop", bench.drop(drop), model.drop(drop));
        int place = model.keep();
        same(run, call, "keep", bench.keep(), place);
        same(run, call, "drop", bench.drop(place), model.drop(place));
        int terms = 1 + random.nextInt(random.nextInt(4) == 0 ? 39 : 4);
        for (int t = 0; t < terms; t++) {
            int[] e = new int[4];
            for (int v = 0; v < n; v++) {
                boolean lower = powerOf == NONE || v > powerOf;
                e[v] = t == 0 && powerOf != NONE ? v == powerOf ? 1 + random.nextInt(most) : 0 : lower ? random.nextInt(most + 1) : 0;
            }
            int number = 1 + random.nextInt(6);
            same(run, call, "term", bench.term(number, e[0], e[1], e[2], e[3]), model.term(number, e[0], e[1], e[2], e[3]));
        }
        same(run, call, "enter", bench.enter(-1), model.enter(-1));
    }

    private int fuelToTell() {
        return random.nextInt(3) > 0 ? 2000 - random.nextInt(1900) : random.nextInt(30) == 0 ? any() : random.nextInt(12);
    }

    private void run(int run) {
        if (random.nextInt(2) == 0) {
            int order = random.nextInt(4);
            same(run, -1, "order", bench.order(order), model.order(order));
        }
        for (int call = 0; calls < MOST_CALLS - CALLS_AT_END && wrong == 0; call++) {
            if (random.nextInt(80) == 0 && calls < MOST_CALLS - CALLS_AT_END - CALLS_OF_WHOLE) {
                whole(run, call);
            }
            call(run, call, next());
            if (run % 7 == 0) {
                same(run, call, "digest", bench.digest(), model.digest());
            }
        }
        for (int what = 0; what < 12; what++) {
            same(run, MOST_CALLS, "count " + what, bench.count(what), model.count(what));
        }
    }

    private void call(int run, int call, int which) {
        String name = NAMES[which];
        int a = place();
        int b = place();
        int[] e = {exponent(0), exponent(1), exponent(2), exponent(3)};
        int c = number();
        int k = below(20);
        int v = below(n);
        long got;
        long due;
        switch (name) {
            case "order": k = below(3); got = bench.order(k); due = model.order(k); break;
            case "term": got = bench.term(c, e[0], e[1], e[2], e[3]); due = model.term(c, e[0], e[1], e[2], e[3]); break;
            case "keep": got = bench.keep(); due = model.keep(); break;
            case "drop": got = bench.drop(a); due = model.drop(a); break;
            case "terms": got = bench.terms(a); due = model.terms(a); break;
            case "number": got = bench.number(a, k / 4); due = model.number(a, k / 4); break;
            case "exponent": got = bench.exponent(a, k / 4, v); due = model.exponent(a, k / 4, v); break;
            case "sum": got = bench.sum(a, b, c); due = model.sum(a, b, c); break;
            case "product": got = bench.product(a, b); due = model.product(a, b); break;
            case "derived": got = bench.derived(a, v); due = model.derived(a, v); break;
            case "spair": got = bench.spair(a, b); due = model.spair(a, b); break;
            case "value": got = bench.value(a, c, k, e[0], -c); due = model.value(a, c, k, e[0], -c); break;
            case "compare": got = bench.compare(a, b); due = model.compare(a, b); break;
            case "fuel": k = fuelToTell(); got = bench.fuel(k); due = model.fuel(k); break;
            case "way": k = below(1); got = bench.way(k); due = model.way(k); break;
            case "rules": k = below(3); got = bench.rules(k); due = model.rules(k); break;
            case "enter": got = bench.enter(a); due = model.enter(a); break;
            case "clear": got = bench.clear(); due = model.clear(); break;
            case "work": k = random.nextInt(3) == 0 ? below(5) : below(200); got = bench.work(k); due = model.work(k); break;
            case "tidy": got = bench.tidy(); due = model.tidy(); break;
            case "left": got = bench.left(a); due = model.left(a); break;
            case "member": got = bench.member(a); due = model.member(a); break;
            case "pair": got = bench.pair(k); due = model.pair(k); break;
            case "standing": got = bench.standing(); due = model.standing(); break;
            case "stands": got = bench.stands(k, v); due = model.stands(k, v); break;
            case "without": k = below(n); got = bench.without(k); due = model.without(k); break;
            case "zeros": got = bench.zeros(); due = model.zeros(); break;
            case "count": k = below(11); got = bench.count(k); due = model.count(k); break;
            default: got = bench.digest(); due = model.digest(); break;
        }
        same(run, call, name + " (" + a + ", " + b + ", " + c + ", " + k + ", " + v + ")", got, due);
        answered.merge(name + (got < 0 && got >= -7 && which < 28 ? " " + -got : " ok"), 1, Integer::sum);
    }

    /** The runs are worth little if they do not come to each refusal. */
    private static void dueRefusals() {
        for (int which = 0; which < NAMES.length; which++) {
            if (!answered.containsKey(NAMES[which] + " ok")) {
                wrong++;
                System.out.println(NAMES[which] + " was never answered");
            }
            for (char refusal : REFUSALS[which].toCharArray()) {
                if (!answered.containsKey(NAMES[which] + " " + refusal)) {
                    wrong++;
                    System.out.println(NAMES[which] + " never answered -" + refusal);
                }
            }
        }
    }

    public static void main(String[] args) {
        int runs = args.length > 0 ? Integer.parseInt(args[0]) : RUNS;
        int first = args.length > 1 ? Integer.parseInt(args[1]) : 0;
        for (int run = first; run < first + runs && wrong == 0; run++) {
            ModelTest test = new ModelTest(run);
            test.run(run);
            if (test.calls > MOST_CALLS) {
                wrong++;
                System.out.println("run " + run + " has more calls than an object is used for: " + test.calls);
            }
        }
        if (args.length > 0) {
            System.out.println(answered);
        } else if (wrong == 0) {
            dueRefusals();
        }
        System.out.println(wrong == 0 ? "all runs answer as the model does" : wrong + " answers are not as due");
        if (wrong != 0) {
            System.exit(1);
        }
    }
}
