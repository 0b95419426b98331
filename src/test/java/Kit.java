import java.lang.reflect.InvocationTargetException;
import java.lang.reflect.Method;
import java.util.ArrayList;
import java.util.Arrays;
import java.util.Comparator;
import java.util.List;
import java.util.function.Supplier;

/** What the tests by hand share: polynomials told as texts, due answers, and a look at all that an object tells of itself. */
class Kit {
    static final int NONE = -1, BAD = -2, NOT = -3, FULL = -4, GREAT = -5, LONG = -6, SPENT = -7;
    static final int MIN = Integer.MIN_VALUE, MAX = Integer.MAX_VALUE;
    /** x y^i z^j with i from 1 to 20, j 0 and 1. */
    static final String FORTY = powers("x", "y", 1, 20) + "+" + powers("xz", "y", 1, 20);

    static int wrong = 0;
    static String about = "";

    interface Call {
        long of(IdealBench x);
    }

    static void due(String call, long got, long want) {
        if (got != want) {
            wrong++;
            System.out.println(about + ": " + call + " answered " + got + ", due is " + want);
        }
    }

    static void dueText(String call, String got, String want) {
        if (!got.equals(want)) {
            wrong++;
            System.out.println(about + ": " + call + " is " + got + ", due is " + want);
        }
    }

    // ---- polynomials as texts, such as 2x3y-z+1

    /** Keeps one; the draft is to be nought. */
    static int kept(IdealBench x, String told) {
        draft(x, told);
        return x.keep();
    }

    static void draft(IdealBench x, String told) {
        for (String term : told.replace("-", "+-").split("\\+")) {
            if (!term.isEmpty()) {
                addTerm(x, term);
            }
        }
    }

    private static void addTerm(IdealBench x, String term) {
        int[] exponents = new int[4];
        int sign = term.startsWith("-") ? -1 : 1;
        String digits = "";
        String rest = sign < 0 ? term.substring(1) : term;
        int at = 0;
        while (at < rest.length() && Character.isDigit(rest.charAt(at))) {
            digits += rest.charAt(at++);
        }
        int number = digits.isEmpty() ? 1 : Integer.parseInt(digits);
        while (at < rest.length()) {
            int v = "xyzw".indexOf(rest.charAt(at++));
            String e = "";
            while (at < rest.length() && Character.isDigit(rest.charAt(at))) {
                e += rest.charAt(at++);
            }
            exponents[v] += e.isEmpty() ? 1 : Integer.parseInt(e);
        }
        due("term " + term, Math.min(x.term(sign * number, exponents[0], exponents[1], exponents[2], exponents[3]), 0), 0);
    }

    static String told(IdealBench x, int place) {
        StringBuilder s = new StringBuilder();
        for (int t = 0; t < x.terms(place); t++) {
            s.append(t > 0 ? "+" : "").append(x.number(place, t));
            for (int v = 0; v < x.count(1); v++) {
                int e = x.exponent(place, t, v);
                s.append(e == 0 ? "" : "xyzw".substring(v, v + 1) + (e == 1 ? "" : e));
            }
        }
        return s.toString();
    }

    /** The powers of a variable, each behind the same sign or two. */
    static String powers(String before, String variable, int from, int to) {
        StringBuilder s = new StringBuilder();
        for (int e = from; e <= to; e++) {
            s.append(e > from ? "+" : "").append(before).append(variable).append(e);
        }
        return s.toString();
    }

    // ---- objects

    /** With these on the shelf, from place 0. */
    static IdealBench bench(int p, int n, String... shelf) {
        return ordered(2, p, n, shelf);
    }

    static IdealBench ordered(int order, int p, int n, String... shelf) {
        IdealBench x = new IdealBench(p, n);
        due("order " + order, x.order(order), 2);
        for (int place = 0; place < shelf.length; place++) {
            due("keep", kept(x, shelf[place]), place);
        }
        return x;
    }

    static IdealBench withDraft(IdealBench x, String told) {
        draft(x, told);
        return x;
    }

    static IdealBench entered(IdealBench x, int... places) {
        for (int place : places) {
            due("enter " + place, Math.min(x.enter(place), 0), 0);
        }
        return x;
    }

    static IdealBench fuelled(IdealBench x, int fuel) {
        x.fuel(fuel);
        return x;
    }

    static IdealBench ruled(IdealBench x, int rules) {
        x.rules(rules);
        return x;
    }

    static IdealBench worked(IdealBench x, int pairs) {
        due("work", x.work(200), pairs);
        return x;
    }

    static IdealBench tidied(IdealBench x, int stay) {
        due("tidy", x.tidy(), stay);
        due("basis behind tidy", x.count(2), stay);
        return x;
    }

    /** The TIDY basis y, x, of which x2 is gone that came ahead of them; they are on the shelf as x2, x, y. */
    static IdealBench oneGone() {
        return tidied(worked(entered(bench(7, 2, "x2", "x", "y"), 0, 1, 2), 3), 2);
    }

    /** What is not held yet is nought, and so is the draft. */
    static IdealBench fullShelf(IdealBench x) {
        for (int k = x.count(10); k < 24; k++) {
            x.keep();
        }
        due("held", x.count(10), 24);
        return x;
    }

    // ---- a look

    /** All that it tells of itself, and what it answers to a run of calls that ask for the rest (some 120 calls). */
    private static List<String> look(IdealBench x) {
        List<String> all = new ArrayList<>();
        lookAtState(all, x);
        all.add("FUEL " + x.fuel(500));
        all.add("WAY " + x.way(0));
        all.add("RULES " + x.rules(0));
        all.add("standing " + x.standing() + ": " + x.stands(0, 0) + " " + x.stands(1, 0));
        all.add("without " + x.without(0) + " " + x.without(1));
        all.add("zeros " + x.zeros());
        all.add("member " + x.member(-1));
        all.add("work " + x.work(1) + " " + x.work(3) + ", count(11) " + x.count(11));
        lookAtState(all, x);
        all.add("tidy " + x.tidy() + ", count(11) " + x.count(11));
        all.add("digest " + x.digest());
        all.add("left " + x.left(-1) + ", keep " + x.keep());
        all.add("sum " + x.sum(0, -2, 2) + ", product " + x.product(0, 0) + " " + x.product(0, -2));
        all.add("derived " + x.derived(0, 0) + ", spair " + x.spair(0, -2));
        lookAtState(all, x);
        all.add("clear " + x.clear());
        all.add("ORDER " + x.order(0));
        all.add("digest " + x.digest());
        return all;
    }

    private static void lookAtState(List<String> all, IdealBench x) {
        for (int what = 0; what < 11; what++) {
            if (what != 8) {
                all.add("count(" + what + ") " + x.count(what));
            }
        }
        all.add("digest " + x.digest());
        for (int k = 0; k < Math.min(x.count(3), 10); k++) {
            all.add("pair(" + k + ") " + x.pair(k));
        }
    }

    /** Two objects answer alike to all that is asked (but for count(8) and the count(11) of what they did till now). */
    static void alike(String what, IdealBench x, IdealBench y) {
        List<String> one = look(x);
        List<String> other = look(y);
        for (int k = 0; k < Math.max(one.size(), other.size()); k++) {
            String got = k < one.size() ? one.get(k) : "nothing";
            String want = k < other.size() ? other.get(k) : "nothing";
            if (!got.equals(want)) {
                wrong++;
                System.out.println(about + ": behind " + what + " there is " + got + ", due is " + want);
                return;
            }
        }
    }

    /** The call is answered so, and changes nothing: the object is like one that never had it. */
    static void refused(String what, Supplier<IdealBench> made, Call call, int answer) {
        IdealBench x = made.get();
        IdealBench y = made.get();
        due(what, call.of(x), answer);
        due("count(8) behind " + what, x.count(8), y.count(8));
        due("count(11) behind " + what, x.count(11), y.count(11));
        alike(what, x, y);
    }

    /** A call that met FULL or a FAILURE: it changes nothing but for the REDUCTIONS that it made. */
    static void failed(String what, Supplier<IdealBench> made, Call call, int answer, int reductions) {
        IdealBench x = made.get();
        IdealBench y = made.get();
        due(what, call.of(x), answer);
        due("count(11) behind " + what, x.count(11), reductions);
        due("count(8) behind " + what, x.count(8), y.count(8) + reductions);
        alike(what, x, y);
    }

    // ---- places

    /** Those that hold one in the object of edges(18). */
    static final int[] PLACES = {-1, 0, 23, -2, -19};
    /** Those that hold none there, or are none at all. */
    static final int[] NO_PLACES = {1, 22, 24, 25, 256, -20, -21, -258, MIN, MIN + 1, MAX};

    interface PlaceCall {
        long of(IdealBench x, int place);
    }

    /**
     * The first and the last place of the shelf hold one, the draft is one, and there are so many in a TIDY basis,
     * with the heads y^m .. x^m, the least first.
     */
    static IdealBench edges(int inBasis) {
        IdealBench x = bench(7, 2, "x+3y");
        for (int place = 1; place < 23; place++) {
            x.keep();
        }
        due("the last place", kept(x, "2x2y+1"), 23);
        for (int place = 1; place < 23; place++) {
            x.drop(place);
        }
        for (int i = 0; i < inBasis; i++) {
            x.term(1, i, inBasis - 1 - i, 0, 0);
            due("enter", x.enter(-1), i);
            x.term(-1, i, inBasis - 1 - i, 0, 0);
        }
        draft(x, "4y+5");
        return tidied(worked(x, inBasis * (inBasis - 1) / 2), inBasis);
    }

    static void placesAnswer(String what, PlaceCall call, long... answers) {
        for (int k = 0; k < PLACES.length; k++) {
            due(what + " of place " + PLACES[k], call.of(edges(18), PLACES[k]), answers[k]);
        }
    }

    /** What comes to place 1. */
    static void placesMake(String what, PlaceCall call, String... told) {
        for (int k = 0; k < PLACES.length; k++) {
            IdealBench x = edges(18);
            due(what + " of place " + PLACES[k], call.of(x, PLACES[k]), 1);
            dueText(what + " of place " + PLACES[k], told(x, 1), told[k]);
        }
    }

    static void noPlacesRefused(String what, PlaceCall call) {
        for (int place : NO_PLACES) {
            refused(what + " of place " + place, () -> edges(18), x -> call.of(x, place), BAD);
        }
    }

    // ---- the cases of a test

    /** Runs every method named p and the number of its promise, and asks that each promise from first to last has some. */
    static void runCases(Class<?> test, int first, int last) throws IllegalAccessException {
        Method[] all = test.getDeclaredMethods();
        Arrays.sort(all, Comparator.comparing(Method::getName));
        int[] cases = new int[31];
        int ran = 0;
        for (Method one : all) {
            if (one.getName().matches("p\\d\\d_\\w+")) {
                cases[Integer.parseInt(one.getName().substring(1, 3))]++;
                ran++;
                about = one.getName();
                runCase(one);
            }
        }
        about = test.getName();
        for (int promise = first; promise <= last; promise++) {
            due("promise " + promise + " has cases", cases[promise] > 0 ? 1 : 0, 1);
        }
        System.out.println(ran + " cases: " + (wrong == 0 ? "all hold" : wrong + " answers are not as due"));
        if (wrong != 0) {
            System.exit(1);
        }
    }

    private static void runCase(Method one) throws IllegalAccessException {
        one.setAccessible(true);
        try {
            one.invoke(null);
        } catch (InvocationTargetException thrown) {
            wrong++;
            System.out.println(about + ": threw " + thrown.getCause());
        }
    }
}
