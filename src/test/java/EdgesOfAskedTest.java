import java.math.BigInteger;
import java.util.Arrays;

/** Each boundary case that promises 25 to 30 name, one by one. */
public final class EdgesOfAskedTest extends Kit {
    /** A TIDY basis of these, none of which lessens another one. */
    private static IdealBench tidyOf(int n, String... all) {
        IdealBench x = ruled(new IdealBench(7, n), 3);
        for (String one : all) {
            draft(x, one);
            x.enter(-1);
            draft(x, "-" + one.replace("+", "-"));
        }
        due("the draft is nought", x.terms(-1), 0);
        x.work(200);
        return tidied(x, all.length);
    }

    private static IdealBench ofThreePairs() {
        return entered(bench(7, 2, "x", "y", "xy"), 0, 1, 2);
    }

    // ---- 25 standing

    private static void p25_notTidy() {
        refused("a new one", () -> bench(7, 2), x -> x.standing(), NOT);
        refused("entered", () -> entered(bench(7, 2, "x"), 0), x -> x.standing(), NOT);
        refused("a pair waits", () -> ofThreePairs(), x -> x.standing(), NOT);
        refused("worked", () -> worked(ofThreePairs(), 3), x -> x.standing(), NOT);
        refused("cleared", () -> {
            IdealBench x = tidyOf(2, "x", "y");
            x.clear();
            return x;
        }, x -> x.standing(), NOT);
        refused("tidy failed", () -> fuelled(worked(ruled(entered(ordered(0, 7, 2, "x+y", "y"), 0, 1), 1), 1), 0), x -> {
            due("tidy", x.tidy(), SPENT);
            return x.standing();
        }, NOT);
    }

    private static void p25_none() {
        for (int n = 1; n <= 4; n++) {
            due("of 1", tidyOf(n, "1").standing(), 0);
        }
    }

    private static void p25_one() {
        due("of x", tidyOf(1, "x").standing(), 1);
        due("of x, y, z, w", tidyOf(4, "x", "y", "z", "w").standing(), 1);
    }

    private static void p25_threeHundred() {
        due("20 by 15", tidyOf(2, "x20", "y15").standing(), 300);
        due("30 by 10", tidyOf(2, "x10", "y30").standing(), 300);
        due("1 by 30 by 10", tidyOf(3, "x", "y30", "z10").standing(), 300);
        due("2 by 5 by 3 by 10", tidyOf(4, "x2", "y5", "z3", "w10").standing(), 300);
    }

    private static void p25_beyondThreeHundred() {
        due("301", tidyOf(2, "x20", "y16", "xy15").standing(), NONE);
        due("301 of three", tidyOf(3, "x30", "y11", "z", "xy10").standing(), NONE);
        due("900", tidyOf(2, "x30", "y30").standing(), NONE);
        due("810000", tidyOf(4, "x30", "y30", "z30", "w30").standing(), NONE);
    }

    private static void p25_justBelowThreeHundred() {
        due("299", tidyOf(2, "x20", "y15", "x19y14").standing(), 299);
    }

    private static void p25_endlesslyMany() {
        due("x alone", tidyOf(2, "x").standing(), NONE);
        due("w is free", tidyOf(4, "x", "y", "z").standing(), NONE);
        due("x is free", tidyOf(4, "y", "z", "w").standing(), NONE);
        due("x is free beside", tidyOf(2, "y2", "x5y").standing(), NONE);
        due("all heads of more than one variable", tidyOf(2, "xy").standing(), NONE);
    }

    private static void p25_endlesslyManyThoughFewToExponent30() {
        // x^0 .. x^30 are 31 only, but they go on
        due("of an empty basis", tidyOf(1).standing(), NONE);
        due("x is free", tidyOf(2, "y").standing(), NONE);
        due("y is free", tidyOf(2, "x").standing(), NONE);
    }

    private static void p25_emptyBasis() {
        for (int n = 1; n <= 4; n++) {
            due("empty", tidyOf(n).standing(), NONE);
        }
    }

    private static void p25_greatestExponent() {
        due("x30", tidyOf(1, "x30").standing(), 30);
        due("y30", tidyOf(2, "x", "y30").standing(), 30);
    }

    private static void p25_eighteenHeads() {
        // x^i y^(17 - i): those of a sum below 17
        due("under the stair", edges(18).standing(), 17 * 18 / 2);
    }

    private static void p25_behindATidyThatDroppedOne() {
        due("1 alone", oneGone().standing(), 1);
    }

    private static void p25_headsAloneAreAsked() {
        due("standing", tidyOf(2, "x2+y", "y2+x").standing(), 4);
    }

    // ---- 26 stands

    private static void p26_notTidy() {
        refused("a new one", () -> bench(7, 2), x -> x.stands(0, 0), NOT);
        refused("entered", () -> entered(bench(7, 2, "x"), 0), x -> x.stands(0, 0), NOT);
        refused("worked", () -> worked(ofThreePairs(), 3), x -> x.stands(0, 0), NOT);
    }

    private static void p26_notAheadOfBad() {
        refused("no such i", () -> bench(7, 2), x -> x.stands(-1, 0), NOT);
        refused("no such variable", () -> bench(7, 2), x -> x.stands(0, 2), NOT);
        refused("neither", () -> bench(7, 2), x -> x.stands(MAX, MIN), NOT);
    }

    private static String stands(IdealBench x, int i) {
        String s = "";
        for (int v = 0; v < x.count(1); v++) {
            s += x.stands(i, v) + " ";
        }
        return s;
    }

    private static void p26_first() {
        String[] squares = {"x2", "y2", "z2", "w2"};
        String[] noughts = {"0 ", "0 0 ", "0 0 0 ", "0 0 0 0 "};
        for (int n = 1; n <= 4; n++) {
            dueText("the 0-th", stands(tidyOf(n, Arrays.copyOf(squares, n)), 0), noughts[n - 1]);
        }
    }

    private static void p26_last() {
        IdealBench x = tidyOf(4, "x2", "y2", "z2", "w2");
        dueText("the 15-th", stands(x, 15), "1 1 1 1 ");
        refused("the 16-th", () -> tidyOf(4, "x2", "y2", "z2", "w2"), y -> y.stands(16, 0), BAD);
    }

    private static void p26_lastOfThreeHundred() {
        IdealBench x = tidyOf(2, "x20", "y15");
        dueText("the 299-th", stands(x, 299), "19 14 ");
        dueText("the 298-th", stands(x, 298), "19 13 ");
        due("the 300-th", x.stands(300, 0), BAD);
    }

    private static void p26_beyondTheEnds() {
        for (int i : new int[] {4, 5, 300, 256, -1, -2, MIN, MAX}) {
            refused("the " + i + "-th", () -> tidyOf(2, "x2", "y2"), x -> x.stands(i, 0), BAD);
        }
    }

    private static void p26_variables() {
        String[] squares = {"x2", "y2", "z2", "w2"};
        for (int n = 1; n <= 4; n++) {
            int many = n;
            due("the greatest variable", tidyOf(n, Arrays.copyOf(squares, n)).stands(0, n - 1), 0);
            for (int v : new int[] {n, 4, -1, 32, MIN, MAX}) {
                refused("of " + v, () -> tidyOf(many, Arrays.copyOf(squares, many)), x -> x.stands(0, v), BAD);
            }
        }
    }

    private static void p26_noSuchOneAndNoSuchVariable() {
        refused("neither", () -> tidyOf(2, "x2", "y2"), x -> x.stands(4, 2), BAD);
    }

    private static void p26_noneStands() {
        refused("the 0-th", () -> tidyOf(2, "1"), x -> x.stands(0, 0), BAD);
    }

    private static void p26_tooMany() {
        refused("301", () -> tidyOf(2, "x20", "y16", "xy15"), x -> x.stands(0, 0), BAD);
        refused("endlessly many", () -> tidyOf(2, "x"), x -> x.stands(0, 0), BAD);
        refused("31 to exponent 30", () -> tidyOf(1), x -> x.stands(30, 0), BAD);
    }

    private static void p26_greatestExponent() {
        due("x29", tidyOf(1, "x30").stands(29, 0), 29);
    }

    private static void p26_behindATidyThatDroppedOne() {
        IdealBench x = oneGone();
        dueText("1", stands(x, 0), "0 0 ");
        due("no other", x.stands(1, 0), BAD);
    }

    private static void p26_leastFirstByEachOrder() {
        String[][] due = {
            {"0 0 0 ", "0 0 1 ", "0 1 0 ", "0 2 0 ", "1 0 0 ", "1 0 1 ", "1 1 0 "},
            {"0 0 0 ", "0 0 1 ", "0 1 0 ", "1 0 0 ", "0 2 0 ", "1 0 1 ", "1 1 0 "},
            {"0 0 0 ", "0 0 1 ", "0 1 0 ", "1 0 0 ", "1 0 1 ", "0 2 0 ", "1 1 0 "},
            {"0 0 0 ", "0 0 1 ", "0 1 0 ", "1 0 0 ", "1 0 1 ", "0 2 0 ", "1 1 0 "}
        };
        for (int order = 0; order < 4; order++) {
            IdealBench x = ruled(ordered(order, 7, 3, "x2", "y3", "z2", "yz", "xy2"), 3);
            entered(x, 0, 1, 2, 3, 4);
            x.work(200);
            tidied(x, 5);
            due("standing", x.standing(), 7);
            for (int i = 0; i < 7; i++) {
                dueText("the " + i + "-th by " + order, stands(x, i), due[order][i]);
            }
        }
    }

    // ---- 27 without

    private static void p27_leastAndGreatest() {
        IdealBench x = tidyOf(3, "x2", "y2", "z2");
        due("none asked", x.without(0), 3);
        due("all asked", x.without(3), 0);
    }

    private static void p27_each() {
        IdealBench x = tidyOf(4, "x2", "y3", "z4", "w5", "w4z");
        int[] due = {5, 4, 3, 1, 0};
        for (int k = 0; k < 5; k++) {
            due("without " + k, x.without(k), due[k]);
        }
    }

    private static void p27_beyondTheEnds() {
        for (int n = 1; n <= 4; n++) {
            int many = n;
            for (int k : new int[] {n + 1, 5, -1, 256, MIN, MAX}) {
                refused("without " + k, () -> tidyOf(many, "x2"), x -> x.without(k), BAD);
            }
            due("without N", tidyOf(n, "x2").without(n), 0);
        }
    }

    private static void p27_notTidy() {
        for (int wanted : new int[] {0, 1, 2}) {
            refused("a new one", () -> bench(7, 2), x -> x.without(wanted), NOT);
            refused("entered", () -> entered(bench(7, 2, "x"), 0), x -> x.without(wanted), NOT);
            refused("worked", () -> worked(ofThreePairs(), 3), x -> x.without(wanted), NOT);
        }
    }

    private static void p27_badAheadOfNot() {
        refused("without 3", () -> bench(7, 2), x -> x.without(3), BAD);
        refused("without -1", () -> bench(7, 2), x -> x.without(-1), BAD);
    }

    private static void p27_emptyBasis() {
        for (int k = 0; k <= 2; k++) {
            due("without " + k, tidyOf(2).without(k), 0);
        }
    }

    private static void p27_aNumber() {
        for (int k = 0; k <= 4; k++) {
            due("without " + k, tidyOf(4, "1").without(k), 1);
        }
    }

    private static void p27_anyTermIsAsked() {
        // y2 + x has an x behind its head
        IdealBench x = tidyOf(2, "y2+x");
        due("without 0", x.without(0), 1);
        due("without 1", x.without(1), 0);
        due("the last term", tidyOf(3, "z3+y+z").without(2), 0);
        due("no term", tidyOf(3, "z3+z+1").without(2), 1);
    }

    private static void p27_behindLongerOnes() {
        IdealBench x = tidied(entered(bench(7, 2, "y2+x", "y2"), 0), 1);
        due("x is in it", x.without(1), 0);
        x.clear();
        tidied(entered(x, 1), 1);
        due("it is not", x.without(1), 1);
    }

    private static void p27_behindATidyThatDroppedOne() {
        IdealBench x = oneGone();
        due("both", x.without(0), 2);
        due("y", x.without(1), 1);
        due("none", x.without(2), 0);
    }

    private static void p27_eighteen() {
        IdealBench x = edges(18);
        due("none asked", x.without(0), 18);
        due("y17 alone", x.without(1), 1);
        due("all asked", x.without(2), 0);
    }

    // ---- 28 zeros

    private static void p28_mostPoints() {
        due("7 to 4", new IdealBench(7, 4).zeros(), 2401);
        due("47 to 2", new IdealBench(47, 2).zeros(), 2209);
        due("13 to 3", new IdealBench(13, 3).zeros(), 2197);
        due("251 to 1", new IdealBench(251, 1).zeros(), 251);
    }

    private static void p28_fewestPoints() {
        due("2 to 1", new IdealBench(2, 1).zeros(), 2);
    }

    private static void p28_tooManyPoints() {
        int[][] more = {{53, 2}, {17, 3}, {11, 4}, {251, 2}, {251, 3}};
        for (int[] one : more) {
            refused(one[0] + " to " + one[1], () -> entered(bench(one[0], one[1], "x"), 0), x -> x.zeros(), NOT);
        }
    }

    private static void p28_pointsThatWrapAnInt() {
        // from 216 on the fourth power is above 2^31; that of 241 or 251 is not far from 2^32
        for (int p : new int[] {211, 223, 227, 229, 233, 239, 241, 251}) {
            refused(p + " to 4", () -> bench(p, 4, "x"), x -> x.zeros(), NOT);
        }
    }

    private static void p28_emptyBasis() {
        due("all points", bench(5, 2, "x").zeros(), 25);
        IdealBench x = tidyOf(2, "x", "y");
        x.clear();
        due("all points", x.zeros(), 49);
    }

    private static void p28_noneIs0() {
        due("of 1", entered(bench(7, 4, "3"), 0).zeros(), 0);
        due("x2 + 1 over 7", entered(bench(7, 1, "x2+1"), 0).zeros(), 0);
    }

    private static void p28_allAre0() {
        due("x7 - x", entered(bench(7, 2, "x7-x", "y7-y"), 0, 1).zeros(), 49);
        due("x3 - x", entered(bench(3, 4, "x3-x", "w3-w"), 0, 1).zeros(), 81);
    }

    private static void p28_firstAndLastPoint() {
        due("0, 0, 0, 0 alone", entered(bench(7, 4, "x", "y", "z", "w"), 0, 1, 2, 3).zeros(), 1);
        due("6, 6, 6, 6 alone", entered(bench(7, 4, "x+1", "y+1", "z+1", "w+1"), 0, 1, 2, 3).zeros(), 1);
        due("250 alone", entered(bench(251, 1, "x+1"), 0).zeros(), 1);
    }

    private static void p28_notTidyToo() {
        IdealBench x = ofThreePairs();
        due("pairs wait", x.zeros(), 1);
        due("they wait still", x.count(3), 3);
    }

    private static void p28_oneOfEighteenIsNot0() {
        IdealBench x = bench(7, 1, "x", "x+1");
        for (int i = 0; i < 17; i++) {
            x.enter(0);
        }
        due("0 alone", x.zeros(), 1);
        x.enter(1);
        due("none", x.zeros(), 0);
    }

    // ---- 29 count

    private static void p29_beyondTheEnds() {
        for (int what : new int[] {-1, 12, 13, 256, MIN, MAX}) {
            refused("count " + what, () -> edges(3), x -> x.count(what), BAD);
        }
    }

    private static void p29_basis() {
        IdealBench x = bench(7, 2, "x");
        due("empty", x.count(2), 0);
        for (int i = 0; i < 18; i++) {
            x.enter(0);
            due("entered", x.count(2), i + 1);
        }
        x.enter(0);
        due("full", x.count(2), 18);
    }

    private static void p29_pairs() {
        IdealBench x = bench(7, 2, "x");
        x.enter(0);
        due("of one", x.count(3), 0);
        x.enter(0);
        due("of two", x.count(3), 1);
        for (int i = 2; i < 18; i++) {
            x.enter(0);
        }
        due("of eighteen", x.count(3), 153);
        x.work(152);
        due("one", x.count(3), 1);
    }

    private static void p29_passed() {
        IdealBench x = ruled(entered(bench(7, 2, "x", "y", "xy"), 0, 1, 2), 3);
        due("work", x.work(200), 3);
        due("COPRIME", x.count(4), 1);
        due("CHAIN", x.count(5), 1);
        due("nothing left", x.count(7), 1);
        x.clear();
        entered(x, 0, 1, 2);
        due("work", x.work(200), 3);
        due("COPRIME, since the beginning", x.count(4), 2);
        due("CHAIN, since the beginning", x.count(5), 2);
        due("nothing left, since the beginning", x.count(7), 2);
    }

    private static void p29_left() {
        IdealBench x = worked(entered(bench(7, 2, "x2-y", "xy-1"), 0, 1), 3);
        due("something", x.count(6), 1);
        due("nothing", x.count(7), 2);
        x.clear();
        worked(entered(x, 0, 1), 3);
        due("something, since the beginning", x.count(6), 2);
        due("nothing, since the beginning", x.count(7), 4);
    }

    private static void p29_shelf() {
        IdealBench x = bench(7, 2);
        due("empty", x.count(10), 0);
        x.keep();
        due("a nought", x.count(10), 1);
        fullShelf(x);
        due("full", x.count(10), 24);
        due("keep", x.keep(), FULL);
        due("full", x.count(10), 24);
        x.drop(5);
        due("dropped", x.count(10), 23);
        x.drop(5);
        due("nothing dropped", x.count(10), 23);
    }

    private static void p29_tidy() {
        IdealBench x = bench(7, 2, "x", "y", "");
        due("new", x.count(9), 0);
        x.tidy();
        due("tidied empty", x.count(9), 1);
        x.enter(2);
        due("refused", x.count(9), 1);
        x.enter(0);
        due("entered", x.count(9), 0);
        x.tidy();
        x.work(1);
        x.left(0);
        x.member(0);
        x.order(1);
        due("these leave it so", x.count(9), 1);
        x.clear();
        due("cleared", x.count(9), 0);
    }

    private static IdealBench ofMany() {
        return withDraft(tidied(entered(bench(7, 2, "x"), 0), 1), "x3+x2+x");
    }

    private static void p29_reductionsOfLeftAndMember() {
        IdealBench x = ofMany();
        x.left(-1);
        due("left", x.count(11), 3);
        x.member(0);
        due("member", x.count(11), 1);
        due("in all", x.count(8), 4);
    }

    private static void p29_reductionsOfBadAndNotAreNone() {
        IdealBench x = ofMany();
        x.left(-1);
        x.enter(0);
        due("left", x.left(5), BAD);
        due("member", x.member(5), BAD);
        due("member", x.member(0), NOT);
        due("tidy", x.tidy(), NOT);
        due("work", x.work(0), BAD);
        due("work", x.work(201), BAD);
        due("still those of the first", x.count(11), 3);
        due("in all", x.count(8), 3);
    }

    private static void p29_otherCallsLeaveTheLatest() {
        IdealBench x = ofMany();
        x.left(-1);
        x.product(0, 0);
        x.spair(0, 0);
        x.standing();
        x.zeros();
        x.enter(0);
        x.clear();
        x.order(1);
        x.fuel(0);
        x.keep();
        due("still those of the first", x.count(11), 3);
    }

    private static void p29_reductionsThatMetSpent() {
        IdealBench x = fuelled(ofMany(), 2);
        due("left", x.left(-1), SPENT);
        due("of the latest", x.count(11), 2);
        due("in all", x.count(8), 2);
        due("member", x.member(-1), SPENT);
        due("of the latest", x.count(11), 2);
        due("in all", x.count(8), 4);
    }

    private static void p29_reductionsThatMetLong() {
        String of = "y+" + powers("z", "w", 0, 29) + "+" + powers("z2", "w", 0, 8);
        IdealBench x = withDraft(entered(ordered(0, 7, 4, "y+w30+w29"), 0), of);
        due("left", x.left(-1), LONG);
        due("of the latest", x.count(11), 1);
        due("in all", x.count(8), 1);
    }

    private static void p29_reductionsThatMetFull() {
        IdealBench x = bench(7, 2, "x2-y", "x4+y+1");
        entered(x, 1);
        for (int i = 1; i < 18; i++) {
            x.enter(0);
        }
        due("work", x.work(9), FULL);
        due("of the latest", x.count(11), 1);
        due("in all", x.count(8), 1);
        due("work", x.work(9), FULL);
        due("in all", x.count(8), 2);
    }

    private static void p29_reductionsOfTheLatestPairAlone() {
        // 01 leaves y2 - x without one, 02 takes two, 12 takes one
        IdealBench x = entered(bench(7, 2, "x2-y", "xy-1"), 0, 1);
        due("work", x.work(2), 2);
        due("of 02", x.count(11), 2);
        due("in all", x.count(8), 2);
        due("work", x.work(1), 1);
        due("of 12", x.count(11), 1);
        due("in all", x.count(8), 3);
    }

    private static void p29_reductionsOfAPairThatIsPassed() {
        IdealBench x = ruled(entered(bench(7, 2, "x2-y", "xy-1", "y2-x"), 0, 1), 1);
        due("work", x.work(1), 1);
        x.left(0);
        due("of left", x.count(11), 1);
        due("02 is passed", x.work(1), 1);
        due("it takes none", x.count(11), 0);
        due("by COPRIME", x.count(4), 1);
    }

    private static void p29_reductionsWhenNoPairWaits() {
        IdealBench x = ofMany();
        x.left(-1);
        due("work", x.work(1), 0);
        due("none", x.count(11), 0);
        due("in all", x.count(8), 3);
    }

    private static void p29_reductionsOfAllOfTidy() {
        // z - 1, y - z3, x - y2: three for y, two for x
        IdealBench x = worked(ruled(entered(ordered(0, 7, 3, "x-y2", "z-1", "y-z3"), 0, 1, 2), 1), 3);
        int before = x.count(8);
        due("tidy", x.tidy(), 3);
        due("of all", x.count(11), 5);
        due("in all", x.count(8), before + 5);
        due("tidy again", x.tidy(), 3);
        due("none", x.count(11), 0);
        due("in all", x.count(8), before + 5);
    }

    private static void p29_onlyOnesThatAreMade() {
        IdealBench x = bench(7, 2, "x2+1", "xy");
        x.spair(0, 1);
        x.sum(0, 1, 3);
        x.product(0, 1);
        x.left(0);
        due("none of an empty basis", x.count(8), 0);
    }

    // ---- 30 digest

    private static long digestOf(long... all) {
        long h = 17;
        for (long next : all) {
            h = 31 * h + next;
        }
        return h;
    }

    private static void p30_newObject() {
        for (int n = 1; n <= 4; n++) {
            due("digest", new IdealBench(7, n).digest(), 17 * 31);
        }
    }

    private static void p30_draft() {
        due("of one variable", bench(7, 1).digest(), digestOf(0));
        due("of one variable", withDraft(bench(7, 1), "3x2").digest(), digestOf(1, 3, 2));
        due("of four", withDraft(bench(7, 4), "3x2w5+2").digest(), digestOf(2, 3, 2, 0, 0, 5, 2, 0, 0, 0, 0));
    }

    private static void p30_noughtOnTheShelf() {
        due("at 0", bench(7, 2, "").digest(), digestOf(0, 0, 0));
        due("at 0 and 1", bench(7, 2, "", "").digest(), digestOf(0, 0, 0, 1, 0));
    }

    private static void p30_placesThatHoldNothing() {
        IdealBench x = bench(7, 1, "x", "2", "3x");
        x.drop(1);
        due("0 and 2", x.digest(), digestOf(0, 0, 1, 1, 1, 2, 1, 3, 1));
        x.drop(0);
        x.drop(2);
        due("none", x.digest(), digestOf(0));
    }

    private static void p30_lastPlace() {
        IdealBench x = bench(7, 1);
        for (int place = 0; place < 23; place++) {
            x.keep();
        }
        kept(x, "5x3");
        for (int place = 0; place < 23; place++) {
            x.drop(place);
        }
        due("digest", x.digest(), digestOf(0, 23, 1, 5, 3));
    }

    private static void p30_fullShelf() {
        IdealBench x = fullShelf(bench(7, 1));
        long h = digestOf(0);
        for (int place = 0; place < 24; place++) {
            h = 31 * (31 * h + place);
        }
        due("digest", x.digest(), h);
    }

    private static void p30_draftShelfBasisInTurn() {
        IdealBench x = withDraft(entered(bench(7, 1, "x2", "3x"), 0), "5");
        due("digest", x.digest(), digestOf(1, 5, 0, 0, 1, 1, 2, 1, 1, 3, 1, 1, 1, 2));
    }

    private static void p30_basisWithoutItsNumbers() {
        IdealBench x = entered(bench(7, 1, "2x+1"), 0, 0);
        x.drop(0);
        due("digest", x.digest(), digestOf(0, 2, 1, 1, 4, 0, 2, 1, 1, 4, 0));
    }

    private static void p30_fullBasis() {
        IdealBench x = bench(7, 1, "x");
        for (int i = 0; i < 18; i++) {
            x.enter(0);
        }
        x.drop(0);
        long h = digestOf(0);
        for (int i = 0; i < 18; i++) {
            h = 31 * (31 * (31 * h + 1) + 1) + 1;
        }
        due("digest", x.digest(), h);
    }

    private static void p30_longsThatWrap() {
        IdealBench x = withDraft(bench(251, 4), "250x30y30z30w30+249x2+250");
        long[] all = {3, 250, 30, 30, 30, 30, 249, 2, 0, 0, 0, 250, 0, 0, 0, 0};
        BigInteger h = BigInteger.valueOf(17);
        for (long next : all) {
            h = h.multiply(BigInteger.valueOf(31)).add(BigInteger.valueOf(next));
        }
        due("digest", x.digest(), h.longValue());
        due("it is beyond a long", h.bitLength() < 64 ? 1 : 0, 0);
    }

    private static void p30_thatBelowNought() {
        // one that wraps to below 0 is no refusal
        IdealBench x = new IdealBench(7, 4);
        int below = 0;
        for (int e = 0; e < 31; e++) {
            x.term(1, e, e, e, e);
            below += x.digest() < 0 ? 1 : 0;
        }
        due("some are below 0", below > 0 && below < 31 ? 1 : 0, 1);
    }

    private static void p30_twiceAlike() {
        IdealBench x = edges(18);
        due("digest", x.digest(), x.digest());
    }

    public static void main(String[] args) throws Exception {
        runCases(EdgesOfAskedTest.class, 25, 30);
    }
}
