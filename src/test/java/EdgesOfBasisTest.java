import java.util.function.Supplier;

/** Each boundary case that promises 15 to 24 name, one by one. */
public final class EdgesOfBasisTest extends Kit {
    // What meets a FAILURE by LEX, and what just does not: one of the basis, and what is to be lessened by it.

    private static final String GREAT_BY = "y+z30";
    private static final String GREAT_OF = "yz";
    private static final String NOT_GREAT_OF = "y";
    /** H: 38 TERMS and those of LONG_BY but its head. */
    private static final String H_OF = "y+" + powers("z", "w", 0, 29) + "+" + powers("z2", "w", 0, 7);
    private static final String H_41_BY = "y+w30+w29+w28";
    private static final String H_40_BY = "y+w30+w29";
    private static final String H_39_BY = "y+w30";
    /** R: so many TERMS go over at once, and eight more. */
    private static final String R_BY = "z+" + powers("", "w", 0, 7);
    private static final String R_41_OF = powers("y", "w", 0, 29) + "+" + powers("y2", "w", 0, 2) + "+z";
    private static final String R_40_OF = powers("y", "w", 0, 29) + "+" + powers("y2", "w", 0, 1) + "+z";
    private static final String R_39_OF = powers("y", "w", 0, 29) + "+y2+z";
    private static final String GREAT_AND_LONG_OF = "yw+" + powers("z", "w", 0, 29) + "+" + powers("z2", "w", 0, 7);
    /** Two REDUCTIONS leave z + 1. */
    private static final String TWO_BY = "y+1";
    private static final String TWO_OF = "y2+z";

    /** The one is in a TIDY basis, the other one the draft. */
    private static IdealBench toLeave(String by, String of) {
        return withDraft(tidied(entered(ordered(0, 7, 4, by), 0), 1), of);
    }

    /** The PAIR that waits has the other one as its S. */
    private static IdealBench toWork(String by, String of) {
        IdealBench x = ruled(entered(ordered(0, 7, 4, by, "x+" + of, "x"), 0, 1, 2), 1);
        due("work: two are coprime", x.work(2), 2);
        due("the third waits", x.pair(0), 102);
        return x;
    }

    /** The other one is behind the head of one of the basis. */
    private static IdealBench toTidy(String by, String of) {
        return worked(ruled(entered(ordered(0, 7, 4, by, "x+" + of), 0, 1), 1), 1);
    }

    private static int termsOfLeft(IdealBench x) {
        int place = x.left(-1);
        return place < 0 ? place : x.terms(place);
    }

    // ---- 15 fuel

    private static void p15_least() {
        IdealBench x = bench(7, 2);
        due("fuel", x.fuel(0), 500);
        due("fuel", x.fuel(0), 0);
    }

    private static void p15_greatest() {
        IdealBench x = bench(7, 2);
        due("fuel", x.fuel(2000), 500);
        due("fuel", x.fuel(1), 2000);
    }

    private static void p15_beyondTheEnds() {
        for (int most : new int[] {-1, -500, 2001, 2256, MIN, MAX}) {
            refused("fuel " + most, () -> fuelled(bench(7, 2), 77), x -> x.fuel(most), BAD);
        }
    }

    /** With w - 1, z - w30 each w takes one REDUCTION, each z thirty-one and y nine hundred and sixty-one. */
    private static IdealBench ofMany(int fuel, String draft) {
        return fuelled(withDraft(entered(ordered(0, 7, 4, "w-1", "z-w30", "y-w30z30"), 0, 1, 2), draft), fuel);
    }

    private static void p15_twoThousandReductions() {
        IdealBench x = ofMany(2000, "y2z2w16");
        due("left", x.left(-1), 3);
        dueText("left", told(x, 3), "1");
        due("made", x.count(11), 2000);
    }

    private static void p15_oneMoreThanTwoThousand() {
        failed("left", () -> ofMany(2000, "y2z2w17"), x -> x.left(-1), SPENT, 2000);
    }

    private static void p15_none() {
        failed("left", () -> fuelled(toLeave("y+1", "y"), 0), x -> x.left(-1), SPENT, 0);
        IdealBench x = fuelled(toLeave("y+1", "z"), 0);
        due("none is needed", x.left(-1), 1);
    }

    private static void p15_one() {
        IdealBench x = fuelled(toLeave("y+1", "y"), 1);
        due("one is needed", x.left(-1), 1);
        dueText("left", told(x, 1), "6");
        failed("two are needed", () -> fuelled(toLeave("y+1", "y2"), 1), y -> y.left(-1), SPENT, 1);
    }

    private static void p15_ofEachCallAnew() {
        IdealBench x = fuelled(toLeave("y+1", "y2"), 2);
        for (int k = 1; k < 4; k++) {
            due("left", x.left(-1), k);
            due("member", x.member(-1), 0);
        }
        due("in all", x.count(8), 12);
    }

    private static void p15_ofEachPairAnew() {
        IdealBench x = fuelled(entered(bench(7, 2, "x3", "x3+x+y", "x3+x+2y", "y", "x"), 3, 4, 0, 1, 2), 2);
        due("work", x.work(200), 10);
        due("more than of one", x.count(8) > 2 ? 1 : 0, 1);
    }

    private static void p15_lessThanWasMade() {
        IdealBench x = toLeave("y+1", "y3");
        due("left", x.left(-1), 1);
        x.fuel(2);
        due("left", x.left(-1), SPENT);
        due("made", x.count(11), 2);
    }

    // ---- 16 way

    private static void p16_both() {
        IdealBench x = bench(7, 2);
        due("way 1", x.way(1), 0);
        due("way 1", x.way(1), 1);
        due("way 0", x.way(0), 1);
        due("way 0", x.way(0), 0);
    }

    private static IdealBench ofWay(int way) {
        IdealBench x = entered(bench(7, 2, "x3", "x2y", "xy"), 0, 1, 2);
        due("way", x.way(way), 0);
        return x;
    }

    private static void p16_beyondTheEnds() {
        for (int wrongWay : new int[] {-1, 2, 3, 256, MIN, MAX}) {
            for (int way = 0; way < 2; way++) {
                int was = way;
                refused("way " + wrongWay, () -> ofWay(was), x -> x.way(wrongWay), BAD);
            }
        }
    }

    /** In which order the PAIRS are worked on, none of which leaves anything. */
    private static void worksOn(IdealBench x, int... pairs) {
        for (int one : pairs) {
            int many = x.count(3);
            String before = waiting(x);
            due("work", x.work(1), 1);
            due("pairs", x.count(3), many - 1);
            dueText("behind " + one + " there wait", waiting(x), before.replace(" " + one + " ", " "));
        }
        due("none waits", x.count(3), 0);
    }

    private static String waiting(IdealBench x) {
        String s = " ";
        for (int k = 0; x.pair(k) != NONE; k++) {
            s += x.pair(k) + " ";
        }
        return s;
    }

    private static void p16_wayOfANewObject() {
        worksOn(entered(bench(7, 2, "x3", "x2y", "xy"), 0, 1, 2), 1, 2, 102);
    }

    private static void p16_leastFirst() {
        // M is x3y, x3y, x2y
        worksOn(ofWay(1), 102, 1, 2);
    }

    private static void p16_likeOnes() {
        IdealBench x = entered(bench(7, 2, "xy", "xy+0", "xy", "xy"), 0, 1, 2, 3);
        x.way(1);
        worksOn(x, 1, 2, 102, 3, 103, 203);
    }

    private static void p16_leastByTheOrder() {
        String[] heads = {"x2", "xy3", "y4", "z5"};
        // M: 01 x2y3, 02 x2y4, 12 xy4, 03 x2z5, 13 xy3z5, 23 y4z5
        int[][] pairs = {{203, 103, 102, 3, 1, 2}, {102, 1, 2, 3, 203, 103}, {102, 1, 2, 3, 203, 103}, {3, 203, 103, 102, 1, 2}};
        for (int order = 0; order < 4; order++) {
            IdealBench x = entered(ordered(order, 7, 3, heads), 0, 1, 2, 3);
            x.way(1);
            worksOn(x, pairs[order]);
        }
    }

    private static void p16_leastOfLikeSums() {
        // M: 01 x3z2, 02 x2y3, 12 is greater than both
        String[] heads = {"x2", "x3z2", "y3"};
        int[][] pairs = {{2, 1, 102}, {2, 1, 102}, {1, 2, 102}};
        for (int order = 0; order < 3; order++) {
            IdealBench x = entered(ordered(order, 7, 3, heads), 0, 1, 2);
            x.way(1);
            worksOn(x, pairs[order]);
        }
    }

    private static void p16_changedAmidst() {
        IdealBench x = ofWay(1);
        due("work", x.work(1), 1);
        x.way(0);
        worksOn(x, 1, 2);
    }

    // ---- 17 rules

    private static void p17_each() {
        IdealBench x = bench(7, 2);
        for (int bits = 0; bits < 4; bits++) {
            due("rules " + bits, x.rules(bits), Math.max(0, bits - 1));
        }
        due("rules 0", x.rules(0), 3);
    }

    private static void p17_beyondTheEnds() {
        for (int bits : new int[] {-1, 4, 5, 7, 256, MIN, MAX}) {
            refused("rules " + bits, () -> ruled(entered(bench(7, 2, "x", "y", "xy"), 0, 1, 2), 2), x -> x.rules(bits), BAD);
        }
    }

    private static void p17_offAtFirst() {
        IdealBench x = worked(entered(bench(7, 2, "x", "y", "xy"), 0, 1, 2), 3);
        due("coprime", x.count(4), 0);
        due("chain", x.count(5), 0);
        due("nothing left", x.count(7), 3);
    }

    private static void passedBy(int rules, int coprime, int chain, int nothing, String... heads) {
        IdealBench x = ruled(bench(7, 3, heads), rules);
        for (int place = 0; place < heads.length; place++) {
            x.enter(place);
        }
        worked(x, heads.length * (heads.length - 1) / 2);
        due("coprime", x.count(4), coprime);
        due("chain", x.count(5), chain);
        due("nothing left", x.count(7), nothing);
        due("something left", x.count(6), 0);
    }

    private static void p17_coprime() {
        passedBy(1, 1, 0, 0, "x2", "y2");
        passedBy(1, 0, 0, 1, "x2y", "yz");
        passedBy(1, 0, 0, 1, "x", "x");
        passedBy(0, 0, 0, 1, "x2", "y2");
        passedBy(2, 0, 0, 1, "x2", "y2");
    }

    private static void p17_coprimeToANumber() {
        passedBy(1, 1, 0, 0, "1", "x");
        passedBy(1, 1, 0, 0, "1", "1");
    }

    private static void p17_chainNeedsAThird() {
        passedBy(2, 0, 0, 1, "x2y", "yz");
        passedBy(2, 0, 0, 1, "x", "x");
    }

    private static void p17_chainByOneBetween() {
        // 01 is asked while 02 and 12 wait; 02 while 12 waits; 12 is passed, for 0 divides its M
        passedBy(2, 0, 1, 2, "x", "x", "x");
        // the head of 0 does not divide the M of 12, nor that of 1 the M of 02
        passedBy(2, 0, 0, 3, "x2", "y2", "z2");
        // the head of 2 divides the M of 01, but then they wait; the others' M is divided by that of 0 or 1
        passedBy(2, 0, 0, 3, "x2", "y2", "xy");
    }

    private static void p17_chainWhenThePairOfTheFirstWaits() {
        IdealBench x = ruled(entered(bench(7, 3, "x", "xy", "xz"), 0, 1, 2), 2);
        due("work", x.work(1), 1);
        due("01 is not passed", x.count(5), 0);
        due("work", x.work(1), 1);
        due("02: of 1 the M is not divided", x.count(5), 0);
        due("work", x.work(1), 1);
        due("12 is passed by 0", x.count(5), 1);
    }

    private static void p17_chainWhenThePairOfTheSecondWaits() {
        // WAY 1 works on 12 (M yz) ahead; then 01 (M xyz, the head of 2 divides it; 12 is done, 02 waits)
        IdealBench x = ruled(entered(bench(7, 3, "xy", "yz", "z"), 0, 1, 2), 2);
        x.way(1);
        due("work", x.work(1), 1);
        due("it was 12", x.pair(0) * 1000 + x.pair(1), 1002);
        due("work", x.work(1), 1);
        due("01 is not passed: 02 waits", x.count(5), 0);
        due("work", x.work(1), 1);
        due("02 is passed by 1", x.count(5), 1);
    }

    private static void p17_chainBehindBothOthers() {
        // WAY 1 works on 12 (M xy), on 02 (x2), then on 01 (x2y): the head of 2 divides it, the others are done
        IdealBench x = ruled(entered(bench(7, 2, "x2", "y", "x"), 0, 1, 2), 2);
        x.way(1);
        due("work", x.work(2), 2);
        due("01 waits", x.pair(0), 1);
        due("none is passed yet", x.count(5), 0);
        due("work", x.work(1), 1);
        due("01 is passed", x.count(5), 1);
    }

    private static void p17_coprimeIsAskedAhead() {
        IdealBench x = ruled(entered(bench(7, 2, "1", "x", "y"), 0, 1, 2), 3);
        worked(x, 3);
        due("coprime", x.count(4), 3);
        due("chain", x.count(5), 0);
    }

    private static void p17_passedWithoutFuel() {
        IdealBench x = fuelled(ruled(entered(bench(7, 2, "x+1", "y+1"), 0, 1), 1), 0);
        due("work", x.work(1), 1);
        due("coprime", x.count(4), 1);
        failed("without the rule", () -> fuelled(entered(bench(7, 2, "x+1", "y+1"), 0, 1), 0), y -> y.work(1), SPENT, 0);
    }

    private static void p17_passedThoughGreat() {
        IdealBench x = ruled(entered(ordered(0, 7, 2, "x+y30", "y+1"), 0, 1), 1);
        due("work", x.work(1), 1);
        due("coprime", x.count(4), 1);
    }

    // ---- 18 enter

    private static void p18_places() {
        String[] told = {"1y+3", "1x+3y", "1x2y+4", "1y16", "1x16"};
        int[] places = {-1, 0, 23, -2, -18};
        for (int k = 0; k < places.length; k++) {
            IdealBench x = edges(17);
            due("enter " + places[k], x.enter(places[k]), 17);
            dueText("number 17", told(x, -19), told[k]);
            due("pairs", x.count(3), 17);
            due("no more tidy", x.count(9), 0);
        }
    }

    private static void p18_noPlaces() {
        for (int place : NO_PLACES) {
            refused("enter " + place, () -> edges(17), x -> x.enter(place), BAD);
        }
        refused("enter -19", () -> edges(17), x -> x.enter(-19), BAD);
    }

    private static void p18_nought() {
        refused("the draft", () -> tidied(entered(bench(7, 2, "x", ""), 0), 1), x -> x.enter(-1), BAD);
        refused("a kept one", () -> tidied(entered(bench(7, 2, "x", ""), 0), 1), x -> x.enter(1), BAD);
        refused("of an empty basis", () -> bench(7, 2, ""), x -> x.enter(0), BAD);
    }

    private static void p18_full() {
        for (int place : PLACES) {
            refused("enter " + place, () -> edges(18), x -> x.enter(place), FULL);
        }
    }

    private static void p18_badAheadOfFull() {
        noPlacesRefused("enter", (x, place) -> x.enter(place));
        refused("nought", () -> withDraft(edges(18), "3y+2"), x -> x.enter(-1), BAD);
    }

    private static void p18_eighteen() {
        IdealBench x = bench(7, 2, "2x+1");
        for (int i = 0; i < 18; i++) {
            due("enter", x.enter(0), i);
            due("pairs", x.count(3), i * (i + 1) / 2);
        }
        due("enter", x.enter(0), FULL);
        due("basis", x.count(2), 18);
        due("pairs", x.count(3), 153);
        dueText("the last", told(x, -19), "1x+4");
    }

    private static void p18_monic() {
        IdealBench x = entered(bench(251, 1, "250x+250", "2x+1", "1x+5", "250"), 0, 1, 2, 3);
        dueText("by 250", told(x, -2), "1x+1");
        dueText("by 2", told(x, -3), "1x+126");
        dueText("it is so", told(x, -4), "1x+5");
        dueText("a number", told(x, -5), "1");
        IdealBench y = entered(bench(2, 1, "x+1"), 0);
        dueText("in a field of two", told(y, -2), "1x+1");
    }

    private static void p18_everyNumberIsMadeOne() {
        for (int p : new int[] {2, 3, 7, 251}) {
            for (int number = 1; number < p; number++) {
                IdealBench x = new IdealBench(p, 1);
                x.term(number, 1, 0, 0, 0);
                x.term(1, 0, 0, 0, 0);
                x.enter(-1);
                due("head", x.number(-2, 0), 1);
                due("the rest by " + number, x.number(-2, 1) * number % p, 1);
            }
        }
    }

    private static void p18_fortyTerms() {
        IdealBench x = entered(bench(7, 3, FORTY), 0);
        due("terms", x.terms(-2), 40);
    }

    private static void p18_fortyTermsMadeMonic() {
        IdealBench x = new IdealBench(7, 3);
        for (int i = 0; i < 40; i++) {
            due("term", x.term(1 + i % 6, 1, 1 + i / 2, i % 2, 0), i + 1);
        }
        int head = x.number(-1, 0);
        due("it is not monic", head == 1 ? 1 : 0, 0);
        due("enter", x.enter(-1), 0);
        for (int t = 0; t < 40; t++) {
            due("number " + t, x.number(-2, t) * head % 7, x.number(-1, t));
        }
    }

    private static void p18_oneOfTheBasis() {
        IdealBench x = entered(bench(7, 2, "x+1", "y"), 0, 1);
        due("enter", x.enter(-2), 2);
        dueText("number 2", told(x, -4), "1x+1");
        dueText("pairs", waiting(x), " 1 2 102 ");
    }

    // ---- 19 clear

    private static void p19_empty() {
        IdealBench x = bench(7, 2, "x");
        due("clear", x.clear(), 0);
        due("clear", x.clear(), 0);
    }

    private static void p19_one() {
        IdealBench x = entered(bench(7, 2, "x"), 0);
        due("clear", x.clear(), 1);
        due("basis", x.count(2), 0);
        due("number 0", x.terms(-2), BAD);
    }

    private static void p19_eighteen() {
        IdealBench x = edges(18);
        due("clear", x.clear(), 18);
        due("basis", x.count(2), 0);
        due("number 0", x.terms(-2), BAD);
        due("number 17", x.terms(-19), BAD);
        due("enter", x.enter(0), 0);
    }

    private static void p19_pairsThatWait() {
        IdealBench x = entered(bench(7, 2, "x", "y", "xy"), 0, 1, 2);
        due("clear", x.clear(), 3);
        due("pairs", x.count(3), 0);
        due("pair", x.pair(0), NONE);
        due("work", x.work(1), 0);
        entered(x, 0, 1);
        dueText("pairs anew", waiting(x), " 1 ");
    }

    private static void p19_noMoreTidy() {
        IdealBench x = tidied(entered(bench(7, 2, "x"), 0), 1);
        x.clear();
        due("tidy", x.count(9), 0);
        due("standing", x.standing(), NOT);
        IdealBench y = tidied(bench(7, 2), 0);
        due("clear of an empty one", y.clear(), 0);
        due("tidy", y.count(9), 0);
    }

    private static void p19_theOthersStay() {
        IdealBench x = entered(withDraft(bench(7, 2, "x2+1", "xy+1"), "x+y"), 0, 1);
        x.fuel(99);
        x.way(1);
        x.rules(3);
        due("work", x.work(1), 1);
        int[] counts = new int[12];
        for (int what = 4; what <= 8; what++) {
            counts[what] = x.count(what);
        }
        x.clear();
        for (int what = 4; what <= 8; what++) {
            due("count " + what, x.count(what), counts[what]);
        }
        due("FUEL", x.fuel(1), 99);
        due("WAY", x.way(0), 1);
        due("RULES", x.rules(0), 3);
        dueText("the draft", told(x, -1), "1x+1y");
        due("the shelf", x.count(10), 2);
    }

    // ---- 20 work

    private static IdealBench ofThreePairs() {
        return entered(bench(7, 2, "x", "y", "xy"), 0, 1, 2);
    }

    private static void p20_beyondTheEnds() {
        for (int pairs : new int[] {0, -1, 201, 256, MIN, MAX}) {
            refused("work " + pairs, () -> ofThreePairs(), x -> x.work(pairs), BAD);
            refused("work " + pairs + " of none", () -> bench(7, 2), x -> x.work(pairs), BAD);
        }
    }

    private static void p20_one() {
        IdealBench x = ofThreePairs();
        due("work", x.work(1), 1);
        due("pairs", x.count(3), 2);
    }

    private static void p20_twoHundred() {
        IdealBench x = ofThreePairs();
        due("work", x.work(200), 3);
        due("pairs", x.count(3), 0);
    }

    private static void p20_asManyAsWait() {
        IdealBench x = ofThreePairs();
        due("work", x.work(3), 3);
        due("work", x.work(3), 0);
    }

    private static void p20_oneFewerThanWait() {
        IdealBench x = ofThreePairs();
        due("work", x.work(2), 2);
        due("work", x.work(2), 1);
    }

    private static void p20_noneWaits() {
        IdealBench x = bench(7, 2, "x");
        due("of an empty basis", x.work(1), 0);
        x.enter(0);
        due("of one", x.work(200), 0);
    }

    private static void p20_all153() {
        IdealBench x = bench(7, 1, "x");
        for (int i = 0; i < 18; i++) {
            x.enter(0);
        }
        due("work", x.work(152), 152);
        due("one waits", x.pair(0), 1617);
        due("work", x.work(200), 1);
    }

    private static void p20_whatComesHasPairsThatAreWorkedOn() {
        IdealBench x = entered(bench(7, 2, "x2-y", "xy-1"), 0, 1);
        due("work", x.work(200), 3);
        due("basis", x.count(2), 3);
        IdealBench y = entered(bench(7, 2, "x2-y", "xy-1"), 0, 1);
        due("work", y.work(1), 1);
        dueText("pairs", waiting(y), " 2 102 ");
    }

    private static void p20_tidyThoughNoneWaits() {
        IdealBench x = tidied(entered(bench(7, 2, "x"), 0), 1);
        due("work", x.work(1), 0);
        due("it stays tidy", x.count(9), 1);
    }

    /** What S leaves would be the nineteenth. */
    private static IdealBench fullBasis() {
        IdealBench x = bench(7, 2, "x2-y", "x2y+1", "x2y");
        entered(x, 0, 1, 2);
        for (int i = 3; i < 18; i++) {
            x.enter(0);
        }
        return x;
    }

    private static void p20_full() {
        // the S of 0 and 1 is -y2 - 1
        failed("work", () -> fullBasis(), x -> x.work(1), FULL, 0);
        failed("work 200", () -> fullBasis(), x -> x.work(200), FULL, 0);
    }

    /** What S leaves behind one REDUCTION would be the nineteenth. */
    private static IdealBench fullBehindOne() {
        IdealBench x = bench(7, 2, "x2-y", "x4+y+1");
        entered(x, 1);
        for (int i = 1; i < 18; i++) {
            x.enter(0);
        }
        return x;
    }

    private static void p20_fullBehindReductions() {
        failed("work", () -> fullBehindOne(), x -> x.work(9), FULL, 1);
        failed("with FUEL for just that one", () -> fuelled(fullBehindOne(), 1), x -> x.work(9), FULL, 1);
    }

    private static void p20_spentIsMetAheadOfFull() {
        failed("work", () -> fuelled(fullBehindOne(), 0), x -> x.work(9), SPENT, 0);
    }

    private static void p20_longIsMetAheadOfFull() {
        failed("work", () -> {
            IdealBench x = entered(bench(7, 3, FORTY, "xy20z+y+1"), 0, 1);
            for (int i = 2; i < 18; i++) {
                x.enter(0);
            }
            return x;
        }, x -> x.work(9), LONG, 0);
    }

    private static void p20_fullIsNotMetByWhatLeavesNothing() {
        IdealBench x = edges(18);
        due("work", x.work(1), 0);
        IdealBench y = bench(7, 1, "x");
        for (int i = 0; i < 18; i++) {
            y.enter(0);
        }
        due("work", y.work(1), 1);
        due("nothing left", y.count(7), 1);
    }

    private static void p20_theEighteenth() {
        IdealBench x = bench(7, 2, "x2-y", "xy-1");
        entered(x, 0, 1);
        for (int i = 2; i < 17; i++) {
            x.enter(0);
        }
        due("work", x.work(1), 1);
        due("basis", x.count(2), 18);
        due("the last PAIR", x.pair(x.count(3) - 1), 1617);
        dueText("the eighteenth", told(x, -19), "1y2+6x");
    }

    private static void p20_pairsAheadAreDone() {
        // 01 leaves nothing, 02 meets FULL
        IdealBench x = bench(7, 2, "x2-y", "xy-1");
        IdealBench y = bench(7, 2, "x2-y", "xy-1");
        for (IdealBench one : new IdealBench[] {x, y}) {
            entered(one, 0, 0, 1);
            for (int i = 3; i < 18; i++) {
                one.enter(0);
            }
        }
        due("work", x.work(200), FULL);
        due("work", y.work(1), 1);
        due("pairs", x.count(3), 152);
        due("the next", x.pair(0), 2);
        alike("FULL at the second", x, y);
    }

    private static void p20_spent() {
        failed("FUEL 0", () -> fuelled(toWork(TWO_BY, TWO_OF), 0), x -> x.work(1), SPENT, 0);
        failed("FUEL 1", () -> fuelled(toWork(TWO_BY, TWO_OF), 1), x -> x.work(200), SPENT, 1);
        IdealBench x = fuelled(toWork(TWO_BY, TWO_OF), 2);
        due("as much as it takes", x.work(1), 1);
        due("made", x.count(11), 2);
        dueText("left", told(x, -5), "1z+1");
    }

    private static void p20_greatOfS() {
        failed("work", () -> entered(ordered(0, 7, 2, "x+y30", "xy+1"), 0, 1), x -> x.work(1), GREAT, 0);
    }

    private static void p20_longOfS() {
        failed("work", () -> entered(bench(7, 3, FORTY, "xy20z+y+1"), 0, 1), x -> x.work(1), LONG, 0);
        IdealBench x = entered(bench(7, 3, FORTY, "xy20z+1"), 0, 1);
        due("forty", x.work(1), 1);
        due("terms", x.terms(-4), 40);
    }

    private static void p20_greatOfAReduction() {
        IdealBench y = toWork(GREAT_BY, GREAT_OF);
        IdealBench z = toWork(GREAT_BY, GREAT_OF);
        due("work", y.work(1), GREAT);
        alike("GREAT", y, z);
        IdealBench x = toWork(GREAT_BY, NOT_GREAT_OF);
        due("not great", x.work(1), 1);
        dueText("z30 is left", told(x, -5), "1z30");
    }

    private static void p20_longOfH() {
        failed("41", () -> toWork(H_41_BY, H_OF), x -> x.work(1), LONG, 1);
        IdealBench x = toWork(H_40_BY, H_OF);
        due("40", x.work(1), 1);
        due("terms", x.terms(-5), 40);
    }

    private static void p20_longOfR() {
        failed("41", () -> toWork(R_BY, R_41_OF), x -> x.work(1), LONG, 1);
        IdealBench x = toWork(R_BY, R_40_OF);
        due("40", x.work(1), 1);
        due("terms", x.terms(-5), 40);
    }

    private static void p20_spentAheadOfGreatAndLong() {
        failed("of GREAT", () -> fuelled(toWork(GREAT_BY, GREAT_OF), 0), x -> x.work(1), SPENT, 0);
        failed("of LONG", () -> fuelled(toWork(H_41_BY, H_OF), 0), x -> x.work(1), SPENT, 0);
    }

    private static void p20_greatAheadOfLong() {
        due("work", toWork(H_41_BY, GREAT_AND_LONG_OF).work(1), GREAT);
    }

    private static void p20_badAheadOfFullAndFailures() {
        refused("of FULL", () -> fullBasis(), x -> x.work(0), BAD);
        refused("of SPENT", () -> fuelled(toWork(TWO_BY, TWO_OF), 0), x -> x.work(201), BAD);
        refused("of GREAT", () -> entered(ordered(0, 7, 2, "x+y30", "xy+1"), 0, 1), x -> x.work(-1), BAD);
    }

    private static void p20_theOneThatFailedIsNextAgain() {
        IdealBench x = fuelled(toWork(TWO_BY, TWO_OF), 1);
        due("work", x.work(1), SPENT);
        due("work", x.work(1), SPENT);
        x.fuel(2);
        due("work", x.work(1), 1);
        due("in all", x.count(8), 4);
    }

    private static void p20_failureByWay1() {
        // by WAY 1 12 (M xy2) is next, ahead of 01 and 02 (M x3y2)
        Supplier<IdealBench> made = () -> {
            IdealBench x = fuelled(entered(bench(7, 2, "x3", "xy2+y2", "y2"), 0, 1, 2), 0);
            x.way(1);
            return x;
        };
        failed("work", made, x -> x.work(1), SPENT, 0);
        IdealBench x = made.get();
        x.fuel(1);
        due("work", x.work(1), 1);
        dueText("they wait", waiting(x), " 1 2 ");
    }

    // ---- 21 tidy

    private static void p21_empty() {
        IdealBench x = bench(7, 2, "x");
        due("tidy", x.tidy(), 0);
        due("tidy", x.count(9), 1);
    }

    private static void p21_one() {
        IdealBench x = entered(bench(7, 2, "3x+y"), 0);
        due("tidy", x.tidy(), 1);
        dueText("it", told(x, -2), "1x+5y");
    }

    private static void p21_eighteen() {
        IdealBench x = edges(18);
        due("again", x.tidy(), 18);
        due("none made", x.count(11), 0);
    }

    private static void p21_eighteenOfOneHead() {
        IdealBench x = bench(7, 1, "x");
        for (int i = 0; i < 18; i++) {
            x.enter(0);
        }
        x.work(153);
        due("tidy", x.tidy(), 1);
    }

    private static void p21_aPairWaits() {
        refused("three", () -> ofThreePairs(), x -> x.tidy(), NOT);
        refused("one", () -> entered(bench(7, 2, "x", "x+1"), 0, 1), x -> x.tidy(), NOT);
    }

    private static void p21_aPairWaitsBehindTidy() {
        refused("tidy", () -> entered(tidied(entered(bench(7, 2, "x", "y"), 0), 1), 1), x -> x.tidy(), NOT);
    }

    private static void p21_notAheadOfFailures() {
        refused("of SPENT", () -> fuelled(entered(toTidy(TWO_BY, TWO_OF), 0), 0), x -> x.tidy(), NOT);
    }

    private static void p21_likeHeadsTheFirstStays() {
        IdealBench x = ruled(entered(bench(7, 2, "x2+y", "x2+y", "x3"), 0, 1), 0);
        due("work", x.work(1), 1);
        due("tidy", x.tidy(), 1);
        dueText("it", told(x, -2), "1x2+1y");
    }

    private static void p21_likeHeadsOfUnlikeOnes() {
        // both ways x2 is there at the end, but the tail of x2 + y takes a REDUCTION
        IdealBench x = worked(entered(bench(7, 2, "x2+y", "x2", "y"), 0, 1, 2), 3);
        due("tidy", x.tidy(), 2);
        due("made", x.count(11), 1);
        IdealBench y = worked(entered(bench(7, 2, "x2+y", "x2", "y"), 1, 0, 2), 3);
        due("tidy", y.tidy(), 2);
        due("made", y.count(11), 0);
        due("alike", x.digest(), y.digest());
    }

    private static void p21_theMultipleIsGoneThoughItIsAhead() {
        IdealBench x = tidied(worked(entered(bench(7, 2, "x2", "x3y", "y3", "x"), 0, 1, 2, 3), 6), 2);
        dueText("x", told(x, -2), "1x");
        dueText("y3", told(x, -3), "1y3");
    }

    private static void p21_leastHeadFirst() {
        String[][] stand = {{"1z5", "1y3", "1x2"}, {"1x2", "1y3", "1z5"}, {"1x2", "1y3", "1z5"}, {"1z5", "1x2", "1y3"}};
        for (int order = 0; order < 4; order++) {
            IdealBench x = tidied(worked(entered(ordered(order, 7, 3, "y3", "x2", "z5"), 0, 1, 2), 3), 3);
            for (int i = 0; i < 3; i++) {
                dueText("number " + i + " by " + order, told(x, -2 - i), stand[order][i]);
            }
        }
    }

    private static void p21_tailsOfUnlikeNumbers() {
        IdealBench x = tidied(entered(bench(11, 1, "x5+2x4+3x3+4x2+5x+6"), 0), 1);
        dueText("nothing lessens it", told(x, -2), "1x5+2x4+3x3+4x2+5x+6");
        IdealBench y = tidied(worked(ruled(entered(bench(11, 2, "x3+2x2+3y2+4x+5y+6", "y2+7x+1"), 0, 1), 1), 1), 2);
        dueText("y2", told(y, -2), "1y2+7x+1");
        dueText("x3, less 3 times that", told(y, -3), "1x3+2x2+5x+5y+3");
    }

    private static void p21_behindALongerBasis() {
        IdealBench x = tidied(worked(ruled(entered(bench(7, 2, "y2", "x3+y", "y"), 0, 1), 1), 1), 2);
        x.clear();
        tidied(worked(entered(x, 2, 2), 1), 1);
        due("nothing is made of what is gone", x.count(11), 0);
        dueText("y", told(x, -2), "1y");
    }

    private static void p21_spent() {
        failed("FUEL 0", () -> fuelled(toTidy(TWO_BY, TWO_OF), 0), x -> x.tidy(), SPENT, 0);
        failed("FUEL 1", () -> fuelled(toTidy(TWO_BY, TWO_OF), 1), x -> x.tidy(), SPENT, 1);
        IdealBench x = fuelled(toTidy(TWO_BY, TWO_OF), 2);
        due("as much as it takes", x.tidy(), 2);
        due("made", x.count(11), 2);
        dueText("x", told(x, -3), "1x+1z+1");
    }

    /** Of z - 1, y - z3, x - y2: three REDUCTIONS for y, then two for x (y is 1 then). */
    private static IdealBench ofFive(int fuel) {
        return fuelled(worked(ruled(entered(ordered(0, 7, 3, "x-y2", "z-1", "y-z3"), 0, 1, 2), 1), 3), fuel);
    }

    private static void p21_fuelOfAll() {
        failed("FUEL 4", () -> ofFive(4), x -> x.tidy(), SPENT, 4);
        failed("FUEL 3", () -> ofFive(3), x -> x.tidy(), SPENT, 3);
        IdealBench x = ofFive(5);
        due("FUEL 5", x.tidy(), 3);
        due("made", x.count(11), 5);
        dueText("z", told(x, -2), "1z+6");
        dueText("y", told(x, -3), "1y+6");
        dueText("x", told(x, -4), "1x+6");
    }

    private static void p21_great() {
        IdealBench y = toTidy(GREAT_BY, GREAT_OF);
        IdealBench z = toTidy(GREAT_BY, GREAT_OF);
        due("tidy", y.tidy(), GREAT);
        alike("GREAT", y, z);
        IdealBench x = toTidy(GREAT_BY, NOT_GREAT_OF);
        due("not great", x.tidy(), 2);
        dueText("x", told(x, -3), "1x+6z30");
    }

    private static void p21_longOfH() {
        failed("41", () -> toTidy(H_41_BY, H_OF), x -> x.tidy(), LONG, 1);
    }

    private static void p21_longOfR() {
        failed("41", () -> toTidy(R_BY, R_41_OF), x -> x.tidy(), LONG, 1);
    }

    private static void p21_longWithTheHead() {
        failed("a head and 40", () -> toTidy(H_40_BY, H_OF), x -> x.tidy(), LONG, 1);
        failed("a head and 40", () -> toTidy(R_BY, R_40_OF), x -> x.tidy(), LONG, 1);
        IdealBench x = toTidy(H_39_BY, H_OF);
        due("a head and 39", x.tidy(), 2);
        due("terms", x.terms(-3), 40);
        IdealBench y = toTidy(R_BY, R_39_OF);
        due("a head and 39", y.tidy(), 2);
        due("terms", y.terms(-3), 40);
    }

    private static void p21_spentAheadOfGreatAndLong() {
        failed("of GREAT", () -> fuelled(toTidy(GREAT_BY, GREAT_OF), 0), x -> x.tidy(), SPENT, 0);
        failed("of LONG", () -> fuelled(toTidy(H_41_BY, H_OF), 0), x -> x.tidy(), SPENT, 0);
    }

    private static void p21_greatAheadOfLong() {
        due("tidy", toTidy(H_41_BY, GREAT_AND_LONG_OF).tidy(), GREAT);
    }

    private static void p21_failureBehindOneThatWasTidied() {
        failed("tidy", () -> {
            IdealBench x = tidied(ofFive(5), 3);
            x.clear();
            return fuelled(worked(entered(x, 0, 1, 2), 3), 4);
        }, x -> x.tidy(), SPENT, 4);
    }

    private static void p21_failureOfATidyBasis() {
        // it is TIDY already, so there is nothing to do without FUEL
        IdealBench x = fuelled(tidied(toTidy(TWO_BY, TWO_OF), 2), 0);
        due("again", x.tidy(), 2);
        due("none made", x.count(11), 0);
    }

    // ---- 22 left

    private static void p22_places() {
        placesMake("left", (x, place) -> x.left(place), "4y+5", "1x+3y", "2x2y+1", "", "");
    }

    private static void p22_noPlaces() {
        noPlacesRefused("left", (x, place) -> x.left(place));
    }

    private static void p22_emptyBasis() {
        IdealBench x = bench(7, 2, "3x+y");
        due("left", x.left(0), 1);
        dueText("left", told(x, 1), "3x+1y");
        due("made", x.count(11), 0);
    }

    private static void p22_nought() {
        IdealBench x = fuelled(entered(bench(7, 2, "x"), 0), 0);
        due("left", x.left(-1), 1);
        due("terms", x.terms(1), 0);
    }

    private static void p22_aNumberInTheBasis() {
        IdealBench x = entered(bench(7, 3, "3", FORTY), 0);
        due("left", x.left(1), 2);
        due("terms", x.terms(2), 0);
        due("made", x.count(11), 40);
    }

    private static void p22_firstOfTheRow() {
        IdealBench x = entered(bench(7, 2, "x2+1", "x2+y", "x+y"), 0, 1, 2);
        draft(x, "x2");
        due("left", x.left(-1), 3);
        dueText("by number 0", told(x, 3), "6");
        IdealBench y = entered(bench(7, 2, "x2+1", "x2+y", "x+y"), 1, 0, 2);
        draft(y, "x2");
        due("left", y.left(-1), 3);
        dueText("by number 0", told(y, 3), "6y");
    }

    private static void p22_dividesByEachExponent() {
        IdealBench x = entered(bench(7, 4, "x2y2z2w2"), 0);
        String[] none = {"xy30z30w30", "x30yz30w30", "x30y30zw30", "x30y30z30w", "x30y30z30", "y30z30w30"};
        for (String one : none) {
            draft(x, one);
            due("left", x.left(-1) > 0 ? x.count(11) : -1, 0);
            draft(x, "-" + one);
        }
        draft(x, "x2y2z2w2+x30y30z30w30");
        due("left", x.left(-1) > 0 ? x.count(11) : -1, 2);
    }

    private static void p22_whileOneWaits() {
        IdealBench x = ofThreePairs();
        draft(x, "x+y+1");
        due("left", x.left(-1), 3);
        dueText("left", told(x, 3), "1");
        due("they wait", x.count(3), 3);
    }

    private static void p22_full() {
        failed("left", () -> fullShelf(toLeave("y+1", "")), x -> x.left(0), FULL, 0);
    }

    private static void p22_fullIsTheLatestCall() {
        IdealBench x = fullShelf(toLeave("y+1", ""));
        due("member", x.member(0), 1);
        due("made", x.count(11), 1);
        due("left", x.left(0), FULL);
        due("made", x.count(11), 0);
        due("in all", x.count(8), 1);
    }

    private static void p22_badAheadOfFull() {
        refused("left", () -> fullShelf(toLeave("y+1", "")), x -> x.left(24), BAD);
        refused("left", () -> fullShelf(toLeave("y+1", "")), x -> x.left(-3), BAD);
    }

    private static void p22_fullAheadOfFailures() {
        failed("of SPENT", () -> withDraft(fuelled(fullShelf(toLeave(TWO_BY, "")), 0), TWO_OF), x -> x.left(-1), FULL, 0);
        failed("of GREAT", () -> withDraft(fullShelf(toLeave(GREAT_BY, "")), GREAT_OF), x -> x.left(-1), FULL, 0);
        failed("of LONG", () -> withDraft(fullShelf(toLeave(H_41_BY, "")), H_OF), x -> x.left(-1), FULL, 0);
    }

    private static void p22_badAheadOfFailures() {
        refused("of SPENT", () -> fuelled(toLeave(TWO_BY, TWO_OF), 0), x -> x.left(1), BAD);
    }

    private static void p22_lastPlaceThenFull() {
        IdealBench x = toLeave("y+1", "z");
        for (int place = 1; place < 24; place++) {
            due("left", x.left(-1), place);
        }
        due("left", x.left(-1), FULL);
    }

    private static void p22_spent() {
        failed("FUEL 0", () -> fuelled(toLeave(TWO_BY, TWO_OF), 0), x -> x.left(-1), SPENT, 0);
        failed("FUEL 1", () -> fuelled(toLeave(TWO_BY, TWO_OF), 1), x -> x.left(-1), SPENT, 1);
        IdealBench x = fuelled(toLeave(TWO_BY, TWO_OF), 2);
        due("as much as it takes", x.left(-1), 1);
        dueText("left", told(x, 1), "1z+1");
    }

    private static void p22_great() {
        IdealBench y = toLeave(GREAT_BY, GREAT_OF);
        IdealBench z = toLeave(GREAT_BY, GREAT_OF);
        due("left", y.left(-1), GREAT);
        alike("GREAT", y, z);
        IdealBench x = toLeave(GREAT_BY, NOT_GREAT_OF);
        due("not great", x.left(-1), 1);
        dueText("left", told(x, 1), "6z30");
    }

    private static void p22_longOfH() {
        failed("41", () -> toLeave(H_41_BY, H_OF), x -> x.left(-1), LONG, 1);
        due("40", termsOfLeft(toLeave(H_40_BY, H_OF)), 40);
    }

    private static void p22_longOfR() {
        failed("41", () -> toLeave(R_BY, R_41_OF), x -> x.left(-1), LONG, 1);
        due("40", termsOfLeft(toLeave(R_BY, R_40_OF)), 40);
    }

    private static void p22_fortyGoOver() {
        due("forty", termsOfLeft(withDraft(entered(bench(7, 3, "z2"), 0), FORTY)), 40);
        due("none", termsOfLeft(withDraft(entered(bench(7, 3, "xy"), 0), FORTY)), 0);
    }

    private static void p22_spentAheadOfGreatAndLong() {
        failed("of GREAT", () -> fuelled(toLeave(GREAT_BY, GREAT_OF), 0), x -> x.left(-1), SPENT, 0);
        failed("of LONG", () -> fuelled(toLeave(H_41_BY, H_OF), 0), x -> x.left(-1), SPENT, 0);
    }

    /** Thirty-seven TERMS go over at once; of what the last becomes some are to be lessened by w + 1. */
    private static IdealBench toLeaveInTurn(int fuel, String by) {
        String of = powers("x", "z", 0, 29) + "+" + powers("x2", "z", 0, 6) + "+y";
        return fuelled(withDraft(entered(ordered(0, 7, 4, by, "w+1"), 0, 1), of), fuel);
    }

    private static void p22_longAndSpentAsTheyAreMet() {
        // z goes over as the 41st ahead of w, that there is no FUEL for
        failed("LONG first", () -> toLeaveInTurn(1, "y+z4+z3+z2+z+w"), x -> x.left(-1), LONG, 1);
        failed("SPENT first", () -> toLeaveInTurn(1, "y+z4w+z3+z2+z+1"), x -> x.left(-1), SPENT, 1);
        failed("with more FUEL LONG", () -> toLeaveInTurn(2, "y+z4w+z3+z2+z+1"), x -> x.left(-1), LONG, 2);
    }

    /** Many REDUCTIONS and thirty-nine TERMS that go over; then of y30 two come, the first of which goes over. */
    private static IdealBench toLeaveWithAllSteps(String of30) {
        String many = powers("xz", "y", 2, 29) + "+" + powers("x2", "y", 0, 7);
        String draft = many + "+x3z30w14+x4z6+x5+y30";
        return fuelled(withDraft(entered(ordered(0, 7, 4, "w-1", "z-w30", of30), 0, 1, 2), draft), 2000);
    }

    private static void p22_asManyStepsAsThereMayBe() {
        // 28 + 30 + 6 times 31, 14 and 1
        failed("the 41st TERM", () -> toLeaveWithAllSteps("y30-y-1"), x -> x.left(-1), LONG, 31 * 64 + 14 + 1);
        failed("with one more", () -> toLeaveWithAllSteps("y30-y-w"), x -> x.left(-1), LONG, 31 * 64 + 14 + 2);
        failed("with two more", () -> toLeaveWithAllSteps("y30-y-w2"), x -> x.left(-1), SPENT, 2000);
    }

    private static void p22_greatAheadOfLong() {
        due("left", toLeave(H_41_BY, GREAT_AND_LONG_OF).left(-1), GREAT);
    }

    private static void p22_notMonicIsNotMadeSo() {
        IdealBench x = entered(bench(7, 2, "y+1", "3x+2y"), 0);
        due("left", x.left(1), 2);
        dueText("left", told(x, 2), "3x+5");
    }

    private static void p22_byHeadsOfTheOrder() {
        // the heads: x2, z4, z4, y3
        String[] one = {"-y6z4-3y3z8", "-4x2y6-4x4y3", "-4x2y6-4x4y3", "-x4z4-3x2z8"};
        // the heads: xz, xz, y2, y2
        String[] other = {"-2xy4-x2y2", "-2xy4-x2y2", "-6x3z2-6x3z", "-6x3z2-6x3z"};
        for (int order = 0; order < 4; order++) {
            leftIs(order, "y3+x2+3z4", "x2y3z4", one[order]);
            leftIs(order, "xz+2y2+x", "x2y2z", other[order]);
        }
    }

    private static void leftIs(int order, String by, String of, String want) {
        IdealBench x = withDraft(entered(ordered(order, 11, 3, by, of), 0), want);
        due("left", x.left(1), 2);
        due("by " + order, x.compare(2, -1), 0);
        due("made", x.count(11), 1);
    }

    // ---- 23 member

    private static void p23_places() {
        placesAnswer("member", (x, place) -> x.member(place), 0, 0, 0, 1, 1);
    }

    private static void p23_noPlaces() {
        noPlacesRefused("member", (x, place) -> x.member(place));
    }

    private static void p23_notTidy() {
        refused("a new one", () -> bench(7, 2, "x"), x -> x.member(0), NOT);
        refused("entered", () -> entered(bench(7, 2, "x"), 0), x -> x.member(0), NOT);
        refused("a pair waits", () -> ofThreePairs(), x -> x.member(0), NOT);
        refused("worked", () -> worked(ofThreePairs(), 3), x -> x.member(0), NOT);
        refused("entered behind tidy", () -> entered(tidied(entered(bench(7, 2, "x"), 0), 1), 0), x -> x.member(0), NOT);
    }

    private static void p23_badAheadOfNot() {
        refused("member", () -> bench(7, 2, "x"), x -> x.member(1), BAD);
        refused("member", () -> bench(7, 2, "x"), x -> x.member(-2), BAD);
    }

    private static void p23_notAheadOfFailures() {
        refused("of SPENT", () -> fuelled(withDraft(entered(ordered(0, 7, 4, TWO_BY), 0), TWO_OF), 0), x -> x.member(-1), NOT);
    }

    private static void p23_nought() {
        IdealBench x = fuelled(tidied(bench(7, 2, ""), 0), 0);
        due("of an empty basis", x.member(0), 1);
        due("the draft", x.member(-1), 1);
    }

    private static void p23_emptyBasis() {
        due("one", tidied(bench(7, 2, "x"), 0).member(0), 0);
        due("forty", tidied(bench(7, 3, FORTY), 0).member(0), 0);
    }

    private static void p23_aNumberInTheBasis() {
        due("all is in", tidied(entered(bench(7, 3, "2", FORTY), 0), 1).member(1), 1);
    }

    private static void p23_fullShelf() {
        due("member", fullShelf(toLeave("y+1", "")).member(0), 1);
    }

    private static void p23_behindATidyThatDroppedOne() {
        IdealBench x = oneGone();
        due("y", x.member(2), 1);
        due("x", x.member(1), 1);
        due("x2", x.member(0), 1);
    }

    private static void p23_spent() {
        failed("FUEL 0", () -> fuelled(toLeave(TWO_BY, TWO_OF), 0), x -> x.member(-1), SPENT, 0);
        failed("FUEL 1", () -> fuelled(toLeave(TWO_BY, TWO_OF), 1), x -> x.member(-1), SPENT, 1);
        due("as much as it takes", fuelled(toLeave(TWO_BY, TWO_OF), 2).member(-1), 0);
    }

    private static void p23_great() {
        IdealBench y = toLeave(GREAT_BY, GREAT_OF);
        IdealBench z = toLeave(GREAT_BY, GREAT_OF);
        due("member", y.member(-1), GREAT);
        alike("GREAT", y, z);
        due("not great", toLeave(GREAT_BY, NOT_GREAT_OF).member(-1), 0);
    }

    private static void p23_longOfH() {
        failed("41", () -> toLeave(H_41_BY, H_OF), x -> x.member(-1), LONG, 1);
        due("40", toLeave(H_40_BY, H_OF).member(-1), 0);
    }

    private static void p23_longOfR() {
        failed("41", () -> toLeave(R_BY, R_41_OF), x -> x.member(-1), LONG, 1);
        due("40", toLeave(R_BY, R_40_OF).member(-1), 0);
    }

    private static void p23_spentAheadOfGreatAndLong() {
        failed("of GREAT", () -> fuelled(toLeave(GREAT_BY, GREAT_OF), 0), x -> x.member(-1), SPENT, 0);
        failed("of LONG", () -> fuelled(toLeave(H_41_BY, H_OF), 0), x -> x.member(-1), SPENT, 0);
    }

    private static void p23_greatAheadOfLong() {
        due("member", toLeave(H_41_BY, GREAT_AND_LONG_OF).member(-1), GREAT);
    }

    // ---- 24 pair

    private static void p24_noneWaits() {
        IdealBench x = bench(7, 2, "x");
        due("of none", x.pair(0), NONE);
        x.enter(0);
        due("of one", x.pair(0), NONE);
    }

    private static void p24_onlyOne() {
        IdealBench x = entered(bench(7, 2, "x", "y"), 0, 1);
        due("pair 0", x.pair(0), 1);
        due("pair 1", x.pair(1), NONE);
        due("pair -1", x.pair(-1), NONE);
    }

    private static void p24_all153() {
        IdealBench x = bench(7, 2, "x");
        for (int i = 0; i < 18; i++) {
            x.enter(0);
        }
        int k = 0;
        for (int j = 1; j < 18; j++) {
            for (int i = 0; i < j; i++) {
                due("pair " + k, x.pair(k), 100 * i + j);
                k++;
            }
        }
        due("pair 153", x.pair(153), NONE);
    }

    private static void p24_beyondTheEnds() {
        for (int k : new int[] {3, 4, 153, 256, -1, -2, MIN, MAX}) {
            refused("pair " + k, () -> ofThreePairs(), x -> x.pair(k), NONE);
        }
    }

    private static void p24_behindOneThatIsDone() {
        IdealBench x = ofThreePairs();
        x.work(1);
        dueText("they wait", waiting(x), " 2 102 ");
        due("pair 2", x.pair(2), NONE);
    }

    private static void p24_newOnesComeBehind() {
        IdealBench x = ofThreePairs();
        x.work(2);
        x.enter(0);
        dueText("they wait", waiting(x), " 102 3 103 203 ");
    }

    public static void main(String[] args) throws Exception {
        runCases(EdgesOfBasisTest.class, 15, 24);
    }
}
