import java.util.Arrays;

/** Each boundary case that promises 1 to 8 name, one by one. */
public final class EdgesOfShelfTest extends Kit {
    private static final int[] PRIMES = {
        2, 3, 5, 7, 11, 13, 17, 19, 23, 29, 31, 37, 41, 43, 47, 53, 59, 61, 67, 71, 73, 79, 83, 89, 97, 101, 103, 107, 109, 113, 127, 131,
        137, 139, 149, 151, 157, 163, 167, 173, 179, 181, 191, 193, 197, 199, 211, 223, 227, 229, 233, 239, 241, 251
    };

    // ---- 1 a new object

    private static void p01_leastPrime() {
        due("P", new IdealBench(2, 2).count(0), 2);
    }

    private static void p01_greatestPrime() {
        due("P", new IdealBench(251, 2).count(0), 251);
    }

    private static void p01_belowLeastPrime() {
        due("P of 1", new IdealBench(1, 2).count(0), 7);
        due("P of 0", new IdealBench(0, 2).count(0), 7);
    }

    private static void p01_belowNought() {
        for (int p : new int[] {-1, -2, -3, -5, -251, MIN, MIN + 1}) {
            due("P of " + p, new IdealBench(p, 2).count(0), 7);
        }
    }

    private static void p01_beyondGreatestPrime() {
        for (int p : new int[] {252, 253, 254, 255, 256, 257, 258, 263, 509, 65537, MAX}) {
            due("P of " + p, new IdealBench(p, 2).count(0), 7);
        }
    }

    private static void p01_everyPrimeAndNoOther() {
        int next = 0;
        for (int p = 2; p <= 251; p++) {
            boolean prime = p == PRIMES[next];
            due("P of " + p, new IdealBench(p, 2).count(0), prime ? p : 7);
            next += prime ? 1 : 0;
        }
    }

    private static void p01_leastN() {
        due("N", new IdealBench(5, 1).count(1), 1);
    }

    private static void p01_greatestN() {
        due("N", new IdealBench(5, 4).count(1), 4);
    }

    private static void p01_belowLeastN() {
        for (int n : new int[] {0, -1, MIN}) {
            due("N of " + n, new IdealBench(5, n).count(1), 3);
        }
    }

    private static void p01_beyondGreatestN() {
        for (int n : new int[] {5, 6, 257, MAX}) {
            due("N of " + n, new IdealBench(5, n).count(1), 3);
        }
    }

    private static void p01_oneWrongLeavesTheOther() {
        due("P", new IdealBench(5, 0).count(0), 5);
        due("N", new IdealBench(4, 1).count(1), 1);
    }

    private static void p01_bothWrong() {
        due("P", new IdealBench(0, 0).count(0), 7);
        due("N", new IdealBench(0, 0).count(1), 3);
    }

    private static void p01_fuelIs500() {
        due("FUEL", new IdealBench(7, 2).fuel(1), 500);
    }

    /** With w - 1, z - w30 each w takes one REDUCTION and each z thirty-one. */
    private static IdealBench ofManyReductions(String draft) {
        return withDraft(entered(ordered(0, 7, 4, "w-1", "z-w30", "y-w30z30"), 0, 1, 2), draft);
    }

    private static void p01_fuelOfANewObjectTakes500() {
        IdealBench x = ofManyReductions("z16w4");
        due("left", x.left(-1), 3);
        due("made", x.count(11), 500);
    }

    private static void p01_fuelOfANewObjectTakesNo501() {
        failed("left", () -> ofManyReductions("z16w5"), x -> x.left(-1), SPENT, 500);
    }

    private static void p01_draftIsNought() {
        due("terms", new IdealBench(7, 2).terms(-1), 0);
    }

    private static void p01_shelfHoldsNothing() {
        IdealBench x = new IdealBench(7, 2);
        for (int place = 0; place < 24; place++) {
            due("terms " + place, x.terms(place), BAD);
        }
        due("held", x.count(10), 0);
    }

    private static void p01_basisIsEmpty() {
        IdealBench x = new IdealBench(7, 2);
        due("basis", x.count(2), 0);
        due("number 0", x.terms(-2), BAD);
        due("pairs", x.count(3), 0);
        due("pair 0", x.pair(0), NONE);
        due("tidy", x.count(9), 0);
    }

    private static void p01_orderWayRules() {
        IdealBench x = new IdealBench(7, 2);
        due("ORDER", x.order(0), 2);
        due("WAY", x.way(1), 0);
        due("RULES", x.rules(3), 0);
    }

    private static void p01_nothingIsCounted() {
        IdealBench x = new IdealBench(7, 2);
        for (int what = 4; what <= 8; what++) {
            due("count " + what, x.count(what), 0);
        }
        due("count 11", x.count(11), 0);
    }

    // ---- 2 order

    private static void p02_least() {
        IdealBench x = new IdealBench(7, 2);
        due("order 0", x.order(0), 2);
        due("order 0", x.order(0), 0);
    }

    private static void p02_greatest() {
        IdealBench x = new IdealBench(7, 2);
        due("order 3", x.order(3), 2);
        due("order 3", x.order(3), 3);
    }

    private static void p02_eachTellsWhatItWas() {
        IdealBench x = new IdealBench(7, 2);
        due("order 1", x.order(1), 2);
        due("order 2", x.order(2), 1);
        due("order 1", x.order(1), 2);
    }

    private static void p02_beyondTheEnds() {
        for (int order : new int[] {-1, 4, 5, 256, MIN, MAX}) {
            refused("order " + order, () -> withDraft(ordered(3, 7, 3, "x2+xz+y", "z3+1"), "z4+x"), x -> x.order(order), BAD);
        }
    }

    private static void p02_basisOfOne() {
        for (int order = 0; order < 4; order++) {
            int wanted = order;
            refused("order " + order, () -> entered(withDraft(ordered(1, 7, 3, "x2+xz+y", "z3+1"), "z4+x"), 0), x -> x.order(wanted), NOT);
        }
    }

    private static void p02_fullBasis() {
        refused("order", () -> edges(18), x -> x.order(0), NOT);
    }

    private static void p02_badAheadOfNot() {
        refused("order 4", () -> entered(bench(7, 2, "x"), 0), x -> x.order(4), BAD);
        refused("order -1", () -> entered(bench(7, 2, "x"), 0), x -> x.order(-1), BAD);
    }

    private static void p02_clearedBasis() {
        IdealBench x = entered(bench(7, 2, "x"), 0);
        due("clear", x.clear(), 1);
        due("order", x.order(0), 2);
    }

    private static void p02_emptyTidyBasis() {
        IdealBench x = tidied(bench(7, 2, "x+y2"), 0);
        due("order", x.order(0), 2);
        due("it stays tidy", x.count(9), 1);
        dueText("x + y2", told(x, 0), "1x+1y2");
    }

    private static void p02_nothingToStand() {
        IdealBench x = bench(7, 2, "");
        due("order", x.order(1), 2);
        due("draft", x.terms(-1), 0);
        due("the nought at a place", x.terms(0), 0);
        due("nothing at a place", x.terms(1), BAD);
    }

    /** The forty TERMS x^(20-k) y^k z^k w^j with k to 19, j to 1, by REVERSED the other way about than by LEX but for j. */
    private static void draftForty(IdealBench x) {
        for (int i = 0; i < 40; i++) {
            due("term", x.term(1, 20 - i / 2, i / 2, i / 2, i % 2), i + 1);
        }
    }

    private static void p02_fullShelfOfLongOnes() {
        IdealBench x = new IdealBench(7, 4);
        draftForty(x);
        x.keep();
        for (int place = 1; place < 24; place++) {
            due("sum", x.sum(0, 0, place % 6), place);
        }
        draftForty(x);
        due("order", x.order(0), 2);
        for (int place = -1; place < 24; place++) {
            due("terms", x.terms(place), 40);
            due("the first of " + place, 100 * x.exponent(place, 0, 0) + x.exponent(place, 0, 3), 2001);
            due("the second of " + place, 100 * x.exponent(place, 1, 0) + x.exponent(place, 1, 3), 2000);
            due("the last of " + place, 100 * x.exponent(place, 39, 0) + x.exponent(place, 39, 3), 100);
            due("its number", x.number(place, 39), place < 0 ? 1 : 1 + place % 6);
        }
    }

    private static void p02_numbersGoWithTheirMonomials() {
        IdealBench x = withDraft(bench(11, 3, "1x2+2xy2+3z3+4y"), "5x2+6y3z+7z");
        due("order", x.order(0), 2);
        dueText("the kept by LEX", told(x, 0), "1x2+2xy2+4y+3z3");
        dueText("the draft by LEX", told(x, -1), "5x2+6y3z+7z");
        due("order", x.order(2), 0);
        dueText("the kept by REVERSED", told(x, 0), "2xy2+3z3+1x2+4y");
        dueText("the draft by REVERSED", told(x, -1), "6y3z+5x2+7z");
    }

    /** By the document's words, of exponents in a row. */
    private static int byOrder(int order, int[] a, int[] b) {
        if (order == 3) {
            int first = reversed(new int[] {a[0], a[1]}, new int[] {b[0], b[1]});
            return first != 0 ? first : reversed(new int[] {a[2], a[3]}, new int[] {b[2], b[3]});
        }
        int bySum = Integer.compare(Arrays.stream(a).sum(), Arrays.stream(b).sum());
        return order == 2 ? reversed(a, b) : order == 1 && bySum != 0 ? bySum : Arrays.compare(a, b);
    }

    private static int reversed(int[] a, int[] b) {
        int bySum = Integer.compare(Arrays.stream(a).sum(), Arrays.stream(b).sum());
        for (int v = a.length - 1; v >= 0 && bySum == 0; v--) {
            bySum = Integer.compare(b[v], a[v]);
        }
        return bySum;
    }

    private static void p02_manyMonomials() {
        int[] exponents = {0, 1, 2, 7, 8, 15, 16, 17, 29, 30};
        int next = 1;
        for (int run = 0; run < 400; run++) {
            IdealBench x = ordered(run % 4, 251, 4);
            for (int t = 0; t < 25; t++) {
                int[] e = new int[4];
                for (int v = 0; v < 4; v++) {
                    next = next * 1103515245 + 12345;
                    e[v] = exponents[(next >>> 16) % (run % 3 == 0 ? 3 : 10)];
                }
                x.term(1, e[0], e[1], e[2], e[3]);
            }
            for (int t = 1; t < x.terms(-1); t++) {
                int order = run % 4;
                due("term " + t + " is less by " + order, byOrder(order, exponentsOf(x, t - 1), exponentsOf(x, t)), 1);
            }
        }
    }

    private static int[] exponentsOf(IdealBench x, int t) {
        return new int[] {x.exponent(-1, t, 0), x.exponent(-1, t, 1), x.exponent(-1, t, 2), x.exponent(-1, t, 3)};
    }

    private static void p02_oneVariable() {
        for (int order = 0; order < 4; order++) {
            dueText("by " + order, told(ordered(order, 7, 1, "x2+1+x30+x"), 0), "1x30+1x2+1x+1");
        }
    }

    private static void p02_greatestExponents() {
        String all = "1x30y30z30w30+2x30y30z30w29+3x30y30z29w30+4x30y29z30w30+5x29y30z30w30";
        for (int order = 0; order < 4; order++) {
            dueText("by " + order, told(ordered(order, 7, 4, all), 0), all);
        }
    }

    private static void p02_sumsThatPassAByte() {
        // x29y30z30w30 has the sum 119, x30 that of 30
        String all = "x30+2x29y30z30w30+3y30z30w30";
        dueText("by 0", told(ordered(0, 7, 4, all), 0), "1x30+2x29y30z30w30+3y30z30w30");
        for (int order = 1; order < 3; order++) {
            dueText("by " + order, told(ordered(order, 7, 4, all), 0), "2x29y30z30w30+3y30z30w30+1x30");
        }
        dueText("by 3", told(ordered(3, 7, 4, all), 0), "2x29y30z30w30+1x30+3y30z30w30");
    }

    private static void p02_likeSumsByEachOrder() {
        // of the sum 2: LEX asks the first VARIABLE of unlike exponents, REVERSED the last, SPLIT the first two alone
        String all = "x2+2xy+3y2+4xz+5yz+6z2";
        String[] stand = {
            "1x2+2xy+4xz+3y2+5yz+6z2", "1x2+2xy+4xz+3y2+5yz+6z2", "1x2+2xy+3y2+4xz+5yz+6z2", "1x2+2xy+3y2+4xz+5yz+6z2"
        };
        for (int order = 0; order < 4; order++) {
            dueText("by " + order, told(ordered(order, 7, 3, all), 0), stand[order]);
        }
    }

    private static void p02_splitAlikeInTheFirstTwo() {
        dueText("z and w as REVERSED", told(ordered(3, 11, 4, "1w2+2zw+3z2+4w+5z+6"), 0), "3z2+2zw+1w2+5z+4w+6");
        dueText("x and y ahead", told(ordered(3, 11, 4, "z30w30+2y+3x"), 0), "3x+2y+1z30w30");
    }

    // ---- 3 term

    private static void p03_exponent0() {
        IdealBench x = new IdealBench(7, 4);
        due("1", x.term(1, 0, 0, 0, 0), 1);
        dueText("draft", told(x, -1), "1");
    }

    private static void p03_exponent30() {
        for (int n = 1; n <= 4; n++) {
            for (int v = 0; v < n; v++) {
                IdealBench x = new IdealBench(7, n);
                due("term", termOf(x, v, 30), 1);
                due("exponent", x.exponent(-1, 0, v), 30);
            }
        }
    }

    private static int termOf(IdealBench x, int v, int e) {
        return x.term(1, v == 0 ? e : 0, v == 1 ? e : 0, v == 2 ? e : 0, v == 3 ? e : 0);
    }

    private static void p03_exponentsBeyond() {
        for (int v = 0; v < 4; v++) {
            for (int e : new int[] {31, 32, 128, 255, 256, 257, MAX, -1, -2, -256, MIN}) {
                int variable = v;
                refused("exponent " + e + " of " + v, () -> withDraft(bench(7, 4), "x2+3"), x -> termOf(x, variable, e), BAD);
            }
        }
    }

    private static void p03_variablesThatThereAreNot() {
        for (int n = 1; n < 4; n++) {
            for (int v = n; v < 4; v++) {
                for (int e : new int[] {1, 30, 31, -1, 256, MIN, MAX}) {
                    int many = n;
                    int variable = v;
                    refused("exponent " + e + " of " + v, () -> withDraft(bench(7, many), "x2+3"), x -> termOf(x, variable, e), BAD);
                }
            }
        }
    }

    private static void p03_badOfNumber0Too() {
        refused("0 x31", () -> bench(7, 2), x -> x.term(0, 31, 0, 0, 0), BAD);
        refused("0 z", () -> bench(7, 2), x -> x.term(0, 0, 0, 1, 0), BAD);
    }

    private static void p03_number0() {
        IdealBench x = withDraft(bench(7, 2), "x");
        due("0", x.term(0, 1, 1, 0, 0), 1);
        due("P", x.term(7, 1, 1, 0, 0), 1);
        due("-P", x.term(-7, 1, 1, 0, 0), 1);
        dueText("draft", told(x, -1), "1x");
    }

    private static void p03_ofNoughtNumber0() {
        due("0", new IdealBench(7, 2).term(0, 0, 0, 0, 0), 0);
    }

    private static void p03_greatestNumber() {
        IdealBench x = new IdealBench(251, 1);
        due("250", x.term(250, 0, 0, 0, 0), 1);
        due("its number", x.number(-1, 0), 250);
    }

    private static void p03_beyondTheNumbers() {
        int[][] restsOf = {{251, 0}, {252, 1}, {-1, 250}, {-250, 1}, {-251, 0}, {-252, 250}, {MAX, 2147483647 % 251}, {MIN, 251 - (int) (2147483648L % 251)}};
        for (int[] rest : restsOf) {
            IdealBench x = new IdealBench(251, 1);
            due("term of " + rest[0], x.term(rest[0], 3, 0, 0, 0), rest[1] == 0 ? 0 : 1);
            due("number of " + rest[0], x.number(-1, 0), rest[1] == 0 ? BAD : rest[1]);
        }
    }

    private static void p03_sumThatWraps() {
        IdealBench x = new IdealBench(251, 1);
        x.term(250, 1, 0, 0, 0);
        due("250 + 250", x.term(250, 1, 0, 0, 0), 1);
        due("number", x.number(-1, 0), 249);
        due("249 + MAX", x.term(MAX, 1, 0, 0, 0), 1);
        due("number", x.number(-1, 0), (int) ((249 + (long) MAX) % 251));
    }

    private static void p03_sumThatEndsAtP() {
        IdealBench x = withDraft(bench(7, 2), "6x+y");
        due("6 + 1", x.term(1, 1, 0, 0, 0), 1);
        dueText("draft", told(x, -1), "1y");
        due("1 + 6", x.term(6, 0, 1, 0, 0), 0);
        due("nought", x.terms(-1), 0);
    }

    private static void p03_fieldOfTwo() {
        IdealBench x = new IdealBench(2, 1);
        due("1", x.term(1, 1, 0, 0, 0), 1);
        due("1 + 1", x.term(1, 1, 0, 0, 0), 0);
        due("-1", x.term(-1, 1, 0, 0, 0), 1);
        due("its rest", x.number(-1, 0), 1);
    }

    private static IdealBench ofForty() {
        return withDraft(bench(7, 3, "x"), FORTY);
    }

    private static void p03_fortyTerms() {
        due("terms", ofForty().terms(-1), 40);
    }

    private static void p03_fortyFirstTerm() {
        refused("less than all", () -> ofForty(), x -> x.term(1, 0, 0, 0, 0), LONG);
        refused("greater than all", () -> ofForty(), x -> x.term(1, 30, 30, 30, 0), LONG);
        refused("amidst", () -> ofForty(), x -> x.term(6, 2, 9, 0, 0), LONG);
    }

    private static void p03_fortyAndOneThatIsThere() {
        IdealBench x = ofForty();
        due("more", x.term(3, 1, 20, 1, 0), 40);
        due("its number", x.number(-1, 0), 4);
        due("the last", x.term(1, 1, 1, 0, 0), 40);
        due("its number", x.number(-1, 39), 2);
    }

    private static void p03_fortyLessOne() {
        IdealBench x = ofForty();
        due("gone", x.term(-1, 1, 1, 0, 0), 39);
        due("another", x.term(2, 0, 0, 0, 0), 40);
        due("no more", x.term(2, 0, 0, 30, 0), LONG);
    }

    private static void p03_fortyAndNumber0() {
        due("0", ofForty().term(0, 0, 0, 0, 0), 40);
        due("P", ofForty().term(7, 0, 0, 0, 0), 40);
    }

    private static void p03_badAheadOfLong() {
        refused("x31", () -> ofForty(), x -> x.term(1, 31, 0, 0, 0), BAD);
        refused("w", () -> ofForty(), x -> x.term(1, 0, 0, 0, 1), BAD);
    }

    // ---- 4 keep

    private static void p04_firstPlace() {
        due("keep", withDraft(bench(7, 2), "x").keep(), 0);
    }

    private static void p04_lastPlace() {
        IdealBench x = bench(7, 2);
        for (int place = 0; place < 23; place++) {
            due("keep", x.keep(), place);
        }
        draft(x, "x+1");
        due("keep", x.keep(), 23);
        dueText("kept", told(x, 23), "1x+1");
        due("draft", x.terms(-1), 0);
    }

    private static void p04_full() {
        refused("keep", () -> withDraft(fullShelf(bench(7, 2, "y")), "x+1"), x -> x.keep(), FULL);
        refused("keep of nought", () -> fullShelf(bench(7, 2, "y")), x -> x.keep(), FULL);
    }

    private static void p04_nought() {
        IdealBench x = bench(7, 2);
        due("keep", x.keep(), 0);
        due("it is held", x.terms(0), 0);
        due("held", x.count(10), 1);
    }

    private static void p04_forty() {
        IdealBench x = withDraft(bench(7, 3), FORTY);
        due("keep", x.keep(), 0);
        due("terms", x.terms(0), 40);
        due("draft", x.terms(-1), 0);
    }

    private static void p04_leastOfManyPlaces() {
        IdealBench x = fullShelf(bench(7, 2));
        x.drop(23);
        x.drop(0);
        x.drop(11);
        due("keep", x.keep(), 0);
        due("keep", x.keep(), 11);
        due("keep", x.keep(), 23);
        due("keep", x.keep(), FULL);
    }

    private static void p04_keptOneStandsAlone() {
        IdealBench x = bench(7, 2, "x+1");
        draft(x, "y");
        dueText("kept", told(x, 0), "1x+1");
        dueText("draft", told(x, -1), "1y");
    }

    // ---- 5 drop

    private static void p05_firstAndLastPlace() {
        due("drop 0", edges(2).drop(0), 2);
        due("drop 23", edges(2).drop(23), 2);
        IdealBench x = fullShelf(bench(7, 2));
        due("drop 23", x.drop(23), 0);
        due("held", x.count(10), 23);
        due("nothing", x.terms(23), BAD);
    }

    private static void p05_noPlace() {
        noPlacesRefused("drop", (x, place) -> x.drop(place));
    }

    private static void p05_draftAndBasisAreNoPlacesOfTheShelf() {
        for (int place : new int[] {-1, -2, -3, -19}) {
            refused("drop " + place, () -> edges(18), x -> x.drop(place), BAD);
        }
    }

    private static void p05_nothing() {
        refused("drop", () -> bench(7, 2), x -> x.drop(0), BAD);
        refused("drop 23", () -> bench(7, 2), x -> x.drop(23), BAD);
    }

    private static void p05_twice() {
        IdealBench x = bench(7, 2, "x+y+1");
        due("drop", x.drop(0), 3);
        due("again", x.drop(0), BAD);
        due("held", x.count(10), 0);
    }

    private static void p05_noughtAndForty() {
        IdealBench x = bench(7, 3, "", FORTY);
        due("nought", x.drop(0), 0);
        due("forty", x.drop(1), 40);
        due("held", x.count(10), 0);
    }

    private static void p05_basisKeepsItsOwn() {
        IdealBench x = entered(bench(7, 2, "x+1"), 0);
        x.drop(0);
        dueText("basis", told(x, -2), "1x+1");
    }

    // ---- 6 terms

    private static void p06_places() {
        placesAnswer("terms", (x, place) -> x.terms(place), 2, 2, 2, 1, 1);
    }

    private static void p06_noPlaces() {
        noPlacesRefused("terms", (x, place) -> x.terms(place));
    }

    private static void p06_emptyBasis() {
        refused("terms -2", () -> bench(7, 2, "x"), x -> x.terms(-2), BAD);
    }

    private static void p06_noughtAndForty() {
        IdealBench x = withDraft(bench(7, 3, "", FORTY), "");
        due("nought", x.terms(0), 0);
        due("forty", x.terms(1), 40);
        due("the draft", x.terms(-1), 0);
    }

    // ---- 7 number

    private static void p07_places() {
        placesAnswer("number", (x, place) -> x.number(place, 0), 4, 1, 2, 1, 1);
    }

    private static void p07_noPlaces() {
        noPlacesRefused("number", (x, place) -> x.number(place, 0));
    }

    private static void p07_firstAndLastTerm() {
        IdealBench x = bench(7, 3, FORTY);
        due("sum", x.sum(0, 0, 4), 1);
        due("the first", x.number(1, 0), 5);
        due("the last", x.number(1, 39), 5);
    }

    private static void p07_beyondTheTerms() {
        for (int t : new int[] {40, 41, -1, 256, MIN, MAX}) {
            refused("number " + t, () -> bench(7, 3, FORTY), x -> x.number(0, t), BAD);
        }
        for (int t : new int[] {3, 39, -1, MIN, MAX}) {
            refused("number " + t, () -> bench(7, 3, "x+y+1"), x -> x.number(0, t), BAD);
        }
    }

    private static void p07_behindOneThatWasLonger() {
        IdealBench x = bench(7, 2, "x2+x+3");
        x.drop(0);
        kept(x, "y");
        due("number 1", x.number(0, 1), BAD);
        due("number 0", x.number(0, 0), 1);
    }

    private static void p07_nought() {
        refused("of the draft", () -> bench(7, 2, ""), x -> x.number(-1, 0), BAD);
        refused("of the kept", () -> bench(7, 2, ""), x -> x.number(0, 0), BAD);
    }

    private static void p07_leastAndGreatestNumber() {
        IdealBench x = bench(251, 1, "250x+1");
        due("250", x.number(0, 0), 250);
        due("1", x.number(0, 1), 1);
    }

    private static void p07_noPlaceAndNoTerm() {
        refused("number", () -> bench(7, 2, "x"), x -> x.number(5, 5), BAD);
    }

    // ---- 8 exponent

    private static void p08_places() {
        placesAnswer("exponent", (x, place) -> x.exponent(place, 0, 1), 1, 0, 1, 17, 0);
        placesAnswer("exponent", (x, place) -> x.exponent(place, 0, 0), 0, 1, 2, 0, 17);
    }

    private static void p08_noPlaces() {
        noPlacesRefused("exponent", (x, place) -> x.exponent(place, 0, 0));
    }

    private static void p08_beyondTheTerms() {
        for (int t : new int[] {40, 41, -1, 256, MIN, MAX}) {
            refused("term " + t, () -> bench(7, 3, FORTY), x -> x.exponent(0, t, 0), BAD);
        }
        for (int t : new int[] {1, 39, -1}) {
            refused("term " + t, () -> bench(7, 3, "x"), x -> x.exponent(0, t, 0), BAD);
        }
    }

    private static void p08_lastTerm() {
        IdealBench x = bench(7, 3, FORTY);
        due("x", x.exponent(0, 39, 0), 1);
        due("y", x.exponent(0, 39, 1), 1);
        due("z", x.exponent(0, 39, 2), 0);
    }

    private static void p08_variables() {
        for (int n = 1; n <= 4; n++) {
            int many = n;
            IdealBench x = new IdealBench(7, n);
            due("term", x.term(1, 5, n > 1 ? 6 : 0, n > 2 ? 7 : 0, n > 3 ? 8 : 0), 1);
            for (int v = 0; v < n; v++) {
                due("exponent of " + v, x.exponent(-1, 0, v), 5 + v);
            }
            for (int v : new int[] {n, 4, -1, 32, MIN, MAX}) {
                refused("exponent of " + v, () -> withDraft(bench(7, many), "x"), y -> y.exponent(-1, 0, v), BAD);
            }
        }
    }

    private static void p08_leastAndGreatest() {
        IdealBench x = withDraft(bench(7, 4), "x30z30+y30w30");
        for (int v = 0; v < 4; v++) {
            due("of the first", x.exponent(-1, 0, v), v % 2 == 0 ? 30 : 0);
            due("of the second", x.exponent(-1, 1, v), v % 2 == 0 ? 0 : 30);
        }
    }

    private static void p08_nought() {
        refused("of the draft", () -> bench(7, 2, ""), x -> x.exponent(-1, 0, 0), BAD);
        refused("of the kept", () -> bench(7, 2, ""), x -> x.exponent(0, 0, 0), BAD);
    }

    public static void main(String[] args) throws Exception {
        runCases(EdgesOfShelfTest.class, 1, 8);
    }
}
