import java.math.BigInteger;

/** Each boundary case that promises 9 to 14 name, one by one. */
public final class EdgesOfSumsTest extends Kit {
    // ---- 9 sum

    private static void p09_placesOfTheFirst() {
        placesMake("sum", (x, place) -> x.sum(place, 0, 1), "1x+5", "2x+6y", "2x2y+1x+3y+1", "1y17+1x+3y", "1x17+1x+3y");
    }

    private static void p09_placesOfTheSecond() {
        placesMake("sum", (x, place) -> x.sum(0, place, 2), "1x+4y+3", "3x+2y", "4x2y+1x+3y+2", "2y17+1x+3y", "2x17+1x+3y");
    }

    private static void p09_noPlaceOfTheFirst() {
        noPlacesRefused("sum", (x, place) -> x.sum(place, 0, 1));
    }

    private static void p09_noPlaceOfTheSecond() {
        noPlacesRefused("sum", (x, place) -> x.sum(0, place, 1));
        noPlacesRefused("sum by 0", (x, place) -> x.sum(0, place, 0));
    }

    private static void p09_noPlaceOfBoth() {
        refused("sum", () -> bench(7, 2, "x"), x -> x.sum(24, -2, 1), BAD);
    }

    private static void sumBy(int p, int s, String want) {
        IdealBench x = bench(p, 1, "x+1", "1");
        due("sum by " + s, x.sum(0, 1, s), 2);
        dueText("sum by " + s, told(x, 2), want);
    }

    private static void p09_by0() {
        sumBy(7, 0, "1x+1");
    }

    private static void p09_byP() {
        sumBy(7, 7, "1x+1");
        sumBy(7, -7, "1x+1");
        sumBy(7, 6, "1x");
        sumBy(7, 8, "1x+2");
    }

    private static void p09_belowNought() {
        sumBy(7, -1, "1x");
        sumBy(251, -2, "1x+250");
    }

    private static void p09_leastAndGreatestInt() {
        sumBy(251, MAX, "1x+" + (1 + MAX % 251));
        sumBy(251, MIN, "1x+" + (1 + 251 - (int) (2147483648L % 251)));
        sumBy(2, MIN, "1x+1");
        sumBy(2, MAX, "1x");
    }

    private static void p09_productsThatWrap() {
        IdealBench x = bench(251, 1, "250x", "250x+250");
        due("sum", x.sum(0, 1, 250), 2);
        dueText("250 + 250 times 250", told(x, 2), "1");
        due("sum", x.sum(0, 1, MIN), 3);
        long rest = 251 - 2147483648L % 251;
        due("250 + MIN times 250", x.number(3, 0), (250 + rest * 250) % 251);
        due("MIN times 250", x.number(3, 1), rest * 250 % 251);
    }

    private static void p09_noughts() {
        IdealBench x = bench(7, 2, "", "x+1");
        due("nought more by nought", x.sum(0, 0, 3), 2);
        due("terms", x.terms(2), 0);
        due("nought more by one", x.sum(0, 1, 3), 3);
        dueText("nought more by one", told(x, 3), "3x+3");
        due("one more by nought", x.sum(1, 0, 3), 4);
        dueText("one more by nought", told(x, 4), "1x+1");
        due("one less itself", x.sum(1, 1, -1), 5);
        due("terms", x.terms(5), 0);
        due("the draft is nought", x.sum(-1, -1, 1), 6);
        due("it is held", x.count(10), 7);
    }

    private static void p09_fortyTerms() {
        IdealBench x = bench(7, 3, FORTY, "xyz+xy", "x2+y", "1");
        due("none is new", x.sum(0, 1, 1), 4);
        due("terms", x.terms(4), 40);
        due("two go, none comes", x.sum(0, 1, -1), 5);
        due("terms", x.terms(5), 38);
        due("two come", x.sum(5, 2, 1), 6);
        due("terms", x.terms(6), 40);
        due("by 0 none comes", x.sum(0, 2, 0), 7);
        due("terms", x.terms(7), 40);
    }

    private static void p09_fortyFirstTerm() {
        refused("one comes", () -> bench(7, 3, FORTY, "1"), x -> x.sum(0, 1, 1), LONG);
        refused("one comes ahead", () -> bench(7, 3, FORTY, "x30y30"), x -> x.sum(0, 1, 1), LONG);
        refused("forty come", () -> bench(7, 3, FORTY, "1"), x -> x.sum(1, 0, 1), LONG);
        refused("one goes, two come", () -> bench(7, 3, FORTY, "x2-xy+1"), x -> x.sum(0, 1, 1), LONG);
        IdealBench y = bench(7, 3, FORTY, "-xy+1");
        due("one goes, one comes", y.sum(0, 1, 1), 2);
        due("terms", y.terms(2), 40);
    }

    private static void p09_eightyTerms() {
        String others = powers("x2", "y", 0, 30) + "+" + powers("z", "y", 0, 8);
        refused("eighty", () -> bench(7, 3, FORTY, others), x -> x.sum(0, 1, 1), LONG);
    }

    private static void p09_lastPlaceThenFull() {
        IdealBench x = bench(7, 2, "x");
        for (int place = 1; place < 24; place++) {
            due("sum", x.sum(0, 0, 1), place);
        }
        due("sum", x.sum(0, 0, 1), FULL);
    }

    private static void p09_standsByTheOrder() {
        for (int order = 0; order < 4; order++) {
            IdealBench x = withDraft(ordered(order, 11, 3, "xz+2y2+z3", "x+2y2+3y+5"), "xz+8y2+z3+3x+9y+4");
            due("sum", x.sum(0, 1, 3), 2);
            due("by " + order, x.compare(2, -1), 0);
        }
    }

    private static void p09_full() {
        refused("sum", () -> fullShelf(bench(7, 2, "x", "y")), x -> x.sum(0, 1, 1), FULL);
    }

    private static void p09_badAheadOfFull() {
        refused("sum", () -> fullShelf(bench(7, 2, "x", "y")), x -> x.sum(24, 1, 1), BAD);
        refused("sum", () -> fullShelf(bench(7, 2, "x", "y")), x -> x.sum(1, -2, 1), BAD);
    }

    private static void p09_fullAheadOfLong() {
        refused("sum", () -> fullShelf(bench(7, 3, FORTY, "1")), x -> x.sum(0, 1, 1), FULL);
    }

    private static void p09_badAheadOfLong() {
        refused("sum", () -> bench(7, 3, FORTY, "1"), x -> x.sum(0, 2, 1), BAD);
    }

    private static void p09_bothStayAsTheyWere() {
        IdealBench x = bench(7, 2, "2x+1", "3y");
        x.sum(0, 1, 5);
        dueText("the first", told(x, 0), "2x+1");
        dueText("the second", told(x, 1), "3y");
    }

    // ---- 10 product

    private static void p10_placesOfTheFirst() {
        placesMake("product", (x, place) -> x.product(place, 0),
            "4xy+5y2+5x+1y", "1x2+6xy+2y2", "2x3y+6x2y2+1x+3y", "1xy17+3y18", "1x18+3x17y");
    }

    private static void p10_placesOfTheSecond() {
        placesMake("product", (x, place) -> x.product(0, place),
            "4xy+5y2+5x+1y", "1x2+6xy+2y2", "2x3y+6x2y2+1x+3y", "1xy17+3y18", "1x18+3x17y");
    }

    private static void p10_noPlaceOfTheFirst() {
        noPlacesRefused("product", (x, place) -> x.product(place, 0));
    }

    private static void p10_noPlaceOfTheSecond() {
        noPlacesRefused("product", (x, place) -> x.product(0, place));
    }

    private static void p10_noughts() {
        IdealBench x = bench(7, 2, "", "x30+1");
        due("nought by nought", x.product(0, 0), 2);
        due("nought by one", x.product(0, 1), 3);
        due("one by nought", x.product(1, 0), 4);
        due("terms", x.terms(2) + x.terms(3) + x.terms(4), 0);
    }

    private static void p10_by1() {
        IdealBench x = bench(7, 3, FORTY, "1");
        due("product", x.product(0, 1), 2);
        due("alike", x.compare(0, 2), 0);
    }

    private static IdealBench ofPowers(int v, int first, int second) {
        String name = "xyzw".substring(v, v + 1);
        return bench(7, 4, name + first + "+1", name + second + "+1");
    }

    private static void p10_exponent30() {
        for (int v = 0; v < 4; v++) {
            for (int first : new int[] {0, 1, 15, 29, 30}) {
                IdealBench x = ofPowers(v, first, 30 - first);
                due("product", x.product(0, 1), 2);
                due("exponent", x.exponent(2, 0, v), 30);
            }
        }
    }

    private static void p10_exponentsBeyond() {
        for (int v = 0; v < 4; v++) {
            for (int[] two : new int[][] {{1, 30}, {30, 1}, {15, 16}, {29, 2}, {30, 30}, {16, 16}}) {
                int variable = v;
                refused("product", () -> ofPowers(variable, two[0], two[1]), x -> x.product(0, 1), GREAT);
            }
        }
    }

    private static void p10_allExponents30() {
        IdealBench x = bench(7, 4, "x30y30z30w30", "1", "x15y15z15w15");
        due("by 1", x.product(0, 1), 3);
        dueText("by 1", told(x, 3), "1x30y30z30w30");
        due("a square", x.product(2, 2), 4);
        dueText("a square", told(x, 4), "1x30y30z30w30");
    }

    private static void p10_allExponents60() {
        refused("a square", () -> bench(7, 4, "x30y30z30w30"), x -> x.product(0, 0), GREAT);
    }

    private static void p10_greatInTheLastTermAlone() {
        refused("y30 by y", () -> bench(7, 2, "x20y20+y30", "x+y"), x -> x.product(0, 1), GREAT);
        refused("the other way about", () -> bench(7, 2, "x20y20+y30", "x+y"), x -> x.product(1, 0), GREAT);
    }

    private static void p10_greatInTheLastTermOfTheLongerOne() {
        refused("three by one", () -> bench(7, 2, "x20y20+x10y20+y30", "y"), x -> x.product(0, 1), GREAT);
        refused("one by three", () -> bench(7, 2, "x20y20+x10y20+y30", "y"), x -> x.product(1, 0), GREAT);
    }

    private static void p10_placeThatHeldALongerOne() {
        IdealBench x = bench(7, 2, "y2+y", "y+1");
        x.drop(1);
        due("kept", kept(x, "y"), 1);
        due("product", x.product(0, 1), 2);
        dueText("product", told(x, 2), "1y3+1y2");
        due("product", x.product(1, 0), 3);
        dueText("product", told(x, 3), "1y3+1y2");
    }

    private static void p10_fortyTerms() {
        IdealBench x = bench(7, 3, powers("", "y", 0, 19), "1+z", powers("", "y", 0, 7), "1+z+z2+z3+z4");
        due("twenty by two", x.product(0, 1), 4);
        due("terms", x.terms(4), 40);
        due("two by twenty", x.product(1, 0), 5);
        due("alike", x.compare(4, 5), 0);
        due("eight by five", x.product(2, 3), 6);
        due("terms", x.terms(6), 40);
    }

    private static void p10_fortyOneTerms() {
        // 20 of z to 0, 21 of z to 1
        refused("long", () -> bench(7, 3, powers("", "y", 0, 19), "1+z+yz"), x -> x.product(0, 1), LONG);
        refused("long", () -> bench(7, 3, powers("", "y", 0, 19), "1+z+yz"), x -> x.product(1, 0), LONG);
    }

    private static void p10_behindOneThatWasLong() {
        IdealBench x = bench(7, 3, powers("", "y", 0, 19), "1+z+yz", "y2+1", "y-1");
        due("long", x.product(0, 1), LONG);
        due("the next", x.product(2, 3), 4);
        dueText("the next", told(x, 4), "1y3+6y2+1y+6");
    }

    private static void p10_sixteenHundredTerms() {
        String one = powers("", "x", 0, 14) + "+" + powers("y", "x", 0, 14) + "+" + powers("y2", "x", 0, 9);
        String other = powers("", "z", 0, 14) + "+" + powers("w", "z", 0, 14) + "+" + powers("w2", "z", 0, 9);
        refused("long", () -> bench(7, 4, one, other), x -> x.product(0, 1), LONG);
    }

    private static void p10_greatAheadOfLong() {
        refused("both", () -> bench(7, 3, FORTY, "z30+1"), x -> x.product(0, 1), GREAT);
        refused("both", () -> bench(7, 3, FORTY, "1+z2+x30"), x -> x.product(1, 0), GREAT);
    }

    private static void p10_longAtTheEndAlone() {
        // the products of terms are 20 by 2, of them all but two go
        IdealBench x = bench(7, 2, powers("", "y", 0, 29), "y-1");
        due("product", x.product(0, 1), 2);
        dueText("product", told(x, 2), "1y30+6");
    }

    private static void p10_numbersThatWrap() {
        IdealBench x = bench(251, 1, "250x+250", "250x+249");
        due("product", x.product(0, 1), 2);
        // (-x - 1) (-x - 2)
        dueText("product", told(x, 2), "1x2+3x+2");
    }

    private static void p10_standsByTheOrder() {
        for (int order = 0; order < 4; order++) {
            IdealBench x = withDraft(ordered(order, 11, 3, "xz+2y2+z3", "x+3y+5"), "x2z+3xyz+5xz+2xy2+6y3+10y2+xz3+3yz3+5z3");
            due("product", x.product(0, 1), 2);
            due("by " + order, x.compare(2, -1), 0);
            due("the other way about", x.product(1, 0), 3);
            due("by " + order, x.compare(3, -1), 0);
        }
    }

    private static void p10_lastPlaceThenFull() {
        IdealBench x = bench(7, 2, "x", "1");
        for (int place = 2; place < 24; place++) {
            due("product", x.product(0, 1), place);
        }
        due("product", x.product(0, 1), FULL);
    }

    private static void p10_full() {
        refused("product", () -> fullShelf(bench(7, 2, "x", "y")), x -> x.product(0, 1), FULL);
    }

    private static void p10_badAheadOfFull() {
        refused("product", () -> fullShelf(bench(7, 2, "x", "y")), x -> x.product(-2, 1), BAD);
        refused("product", () -> fullShelf(bench(7, 2, "x", "y")), x -> x.product(0, 24), BAD);
    }

    private static void p10_badAheadOfGreat() {
        refused("product", () -> bench(7, 2, "x30"), x -> x.product(0, 1), BAD);
    }

    private static void p10_fullAheadOfGreatAndLong() {
        refused("great", () -> fullShelf(bench(7, 2, "x30", "x")), x -> x.product(0, 1), FULL);
        refused("long", () -> fullShelf(bench(7, 3, FORTY, "x+z")), x -> x.product(0, 1), FULL);
    }

    // ---- 11 derived

    private static void p11_places() {
        placesMake("derived", (x, place) -> x.derived(place, 1), "4", "3", "2x2", "3y16", "");
        placesMake("derived", (x, place) -> x.derived(place, 0), "", "1", "4xy", "", "3x16");
    }

    private static void p11_noPlace() {
        noPlacesRefused("derived", (x, place) -> x.derived(place, 0));
    }

    private static void p11_variables() {
        for (int n = 1; n <= 4; n++) {
            int many = n;
            for (int v = 0; v < n; v++) {
                IdealBench x = bench(7, n, "2" + "xyzw".substring(v, v + 1) + "2");
                due("derived", x.derived(0, v), 1);
                dueText("derived", told(x, 1), "4" + "xyzw".substring(v, v + 1));
            }
            for (int v : new int[] {n, 4, -1, 32, MIN, MAX}) {
                refused("derived by " + v, () -> bench(7, many, "x"), x -> x.derived(0, v), BAD);
            }
        }
    }

    private static void p11_exponent0() {
        IdealBench x = bench(7, 2, "5", "y30+1");
        due("of a number", x.derived(0, 0), 2);
        due("of what has none", x.derived(1, 0), 3);
        due("terms", x.terms(2) + x.terms(3), 0);
    }

    private static void p11_exponent1() {
        IdealBench x = bench(7, 2, "3xy+2x");
        due("derived", x.derived(0, 0), 1);
        dueText("derived", told(x, 1), "3y+2");
    }

    private static void p11_exponent30() {
        IdealBench x = bench(7, 4, "x30y30z30w30");
        for (int v = 0; v < 4; v++) {
            due("derived", x.derived(0, v), 1 + v);
            due("exponent", x.exponent(1 + v, 0, v), 29);
            due("number", x.number(1 + v, 0), 2);
        }
    }

    private static void p11_exponentOfP() {
        IdealBench x = bench(7, 1, "x7+x14+x21+x28+3x8+x6");
        due("derived", x.derived(0, 0), 1);
        dueText("those to 7, 14, 21, 28 are gone", told(x, 1), "3x7+6x5");
        IdealBench y = bench(2, 2, "x2y+y2+x30");
        due("derived", y.derived(0, 0), 1);
        due("nought", y.terms(1), 0);
    }

    private static void p11_numbersThatWrap() {
        IdealBench x = bench(251, 1, "250x30");
        due("derived", x.derived(0, 0), 1);
        due("number", x.number(1, 0), 250 * 30 % 251);
    }

    private static void p11_nought() {
        IdealBench x = bench(7, 2, "");
        due("derived", x.derived(0, 1), 1);
        due("terms", x.terms(1), 0);
    }

    private static void p11_fortyTerms() {
        IdealBench x = bench(251, 3, FORTY);
        due("by x", x.derived(0, 0), 1);
        due("terms", x.terms(1), 40);
        due("by z", x.derived(0, 2), 2);
        due("terms", x.terms(2), 20);
    }

    private static void p11_standsByTheOrder() {
        for (int order = 0; order < 4; order++) {
            IdealBench x = ordered(order, 11, 3, "x2y3z4+x3z2+xy4+x2z5+x4y+x");
            due("derived", x.derived(0, 0), 1);
            draft(x, "2xy3z4+3x2z2+y4+2xz5+4x3y+1");
            due("by " + order, x.compare(1, -1), 0);
        }
    }

    private static void p11_full() {
        refused("derived", () -> fullShelf(bench(7, 2, "x2")), x -> x.derived(0, 0), FULL);
    }

    private static void p11_badAheadOfFull() {
        refused("no variable", () -> fullShelf(bench(7, 2, "x2")), x -> x.derived(0, 2), BAD);
        refused("no place", () -> fullShelf(bench(7, 2, "x2")), x -> x.derived(24, 0), BAD);
    }

    private static void p11_lastPlaceThenFull() {
        IdealBench x = bench(7, 2, "x");
        for (int place = 1; place < 24; place++) {
            due("derived", x.derived(0, 0), place);
        }
        due("derived", x.derived(0, 0), FULL);
    }

    // ---- 12 spair

    private static void p12_placesOfTheFirst() {
        placesMake("spair", (x, place) -> x.spair(place, 0), "4y2+3x", "", "4xy2+4", "4y18", "4x16y");
    }

    private static void p12_placesOfTheSecond() {
        placesMake("spair", (x, place) -> x.spair(0, place), "3y2+4x", "", "3xy2+3", "3y18", "3x16y");
    }

    private static void p12_noPlaceOfTheFirst() {
        noPlacesRefused("spair", (x, place) -> x.spair(place, 0));
    }

    private static void p12_noPlaceOfTheSecond() {
        noPlacesRefused("spair", (x, place) -> x.spair(0, place));
    }

    private static void p12_noughts() {
        refused("the first", () -> bench(7, 2, "", "x"), x -> x.spair(0, 1), BAD);
        refused("the second", () -> bench(7, 2, "", "x"), x -> x.spair(1, 0), BAD);
        refused("both", () -> bench(7, 2, "", "x"), x -> x.spair(0, 0), BAD);
        refused("the draft", () -> bench(7, 2, "", "x"), x -> x.spair(-1, 1), BAD);
        refused("the draft", () -> bench(7, 2, "", "x"), x -> x.spair(1, -1), BAD);
    }

    private static void p12_ofItself() {
        IdealBench x = bench(7, 2, "3x2+y+1");
        due("spair", x.spair(0, 0), 1);
        due("nought", x.terms(1), 0);
    }

    private static void p12_ofNumbers() {
        IdealBench x = bench(7, 2, "3", "5", "2x+1");
        due("of two", x.spair(0, 1), 3);
        due("nought", x.terms(3), 0);
        due("of one", x.spair(0, 2), 4);
        dueText("of one", told(x, 4), "3");
    }

    private static void p12_likeHeads() {
        IdealBench x = bench(7, 2, "2x2+4", "3x2+3y");
        due("spair", x.spair(0, 1), 2);
        dueText("spair", told(x, 2), "6y+2");
    }

    private static void p12_unlikeVariables() {
        IdealBench x = bench(7, 2, "x2+1", "y3+x");
        due("spair", x.spair(0, 1), 2);
        dueText("y3 less x3", told(x, 2), "6x3+1y3");
    }

    private static void p12_fieldOfTwo() {
        IdealBench x = bench(2, 2, "x2+1", "xy+1");
        due("spair", x.spair(0, 1), 2);
        dueText("spair", told(x, 2), "1x+1y");
    }

    private static void p12_greatestNumbers() {
        IdealBench x = bench(251, 2, "250x+1", "249y+1");
        due("spair", x.spair(0, 1), 2);
        // y (x - 1) - x (y + 125), for 249 times 125 is 1
        dueText("spair", told(x, 2), "126x+250y");
    }

    private static void p12_exponent30() {
        IdealBench x = ordered(0, 7, 2, "x30+y30", "x29+1", "x+y29", "xy+2");
        due("spair", x.spair(0, 1), 4);
        dueText("spair", told(x, 4), "6x+1y30");
        due("spair", x.spair(2, 3), 5);
        dueText("spair", told(x, 5), "1y30+5");
    }

    private static void p12_great() {
        refused("the first's", () -> ordered(0, 7, 2, "x+y30", "xy+1"), x -> x.spair(0, 1), GREAT);
        refused("the second's", () -> ordered(0, 7, 2, "x+y30", "xy+1"), x -> x.spair(1, 0), GREAT);
        refused("the last term's", () -> bench(7, 2, "y20+x19+x16", "x15+1"), x -> x.spair(0, 1), GREAT);
    }

    private static void p12_fortyTerms() {
        IdealBench x = bench(7, 3, FORTY, "xy20z+1", "xy20z+xy20", "3xy20z+3xy+1");
        due("39 and 1", x.spair(0, 1), 4);
        due("terms", x.terms(4), 40);
        due("39 less one", x.spair(0, 2), 5);
        due("terms", x.terms(5), 38);
        due("one goes, one comes", x.spair(3, 0), 6);
        due("terms", x.terms(6), 39);
    }

    private static void p12_fortyOneTerms() {
        refused("39 and 2", () -> bench(7, 3, FORTY, "xy20z+y+1"), x -> x.spair(0, 1), LONG);
        refused("2 and 39", () -> bench(7, 3, FORTY, "xy20z+y+1"), x -> x.spair(1, 0), LONG);
    }

    private static void p12_greatAheadOfLong() {
        refused("the first's", () -> bench(7, 3, FORTY, "xy20z2+z22+z21+z20+z19+x"), x -> x.spair(0, 1), LONG);
        refused("the second's", () -> bench(7, 3, FORTY, "xy19+x19+x18+y18+1"), x -> x.spair(0, 1), LONG);
        refused("the second's great one", () -> bench(7, 3, FORTY, "x15+y14+z14+x14+1"), x -> x.spair(0, 1), GREAT);
        refused("the first's great one", () -> bench(7, 3, FORTY, "x15+y14+z14+x14+1"), x -> x.spair(1, 0), GREAT);
    }

    private static void p12_headsByTheOrder() {
        // the heads: xz, x2; xz, z4; y2, z4; y2, y3
        String[] want = {"2xy2+x2-y3z-3z5", "2y2z3+xz3-4xy3-4x3", "6xz5+6xz4-4y5-4x2y2", "6xyz+6xy-x2-3z4"};
        for (int order = 0; order < 4; order++) {
            IdealBench x = withDraft(ordered(order, 11, 3, "xz+2y2+x", "y3+x2+3z4"), want[order]);
            due("spair", x.spair(0, 1), 2);
            due("by " + order, x.compare(2, -1), 0);
        }
    }

    private static void p12_full() {
        refused("spair", () -> fullShelf(bench(7, 2, "x", "y")), x -> x.spair(0, 1), FULL);
    }

    private static void p12_badAheadOfFull() {
        refused("nought", () -> fullShelf(bench(7, 2, "x", "y")), x -> x.spair(0, 2), BAD);
        refused("the draft is nought", () -> fullShelf(bench(7, 2, "x", "y")), x -> x.spair(-1, 0), BAD);
        refused("no place", () -> fullShelf(bench(7, 2, "x", "y")), x -> x.spair(24, 0), BAD);
    }

    private static void p12_fullAheadOfGreatAndLong() {
        refused("great", () -> fullShelf(ordered(0, 7, 2, "x+y30", "xy+1")), x -> x.spair(0, 1), FULL);
        refused("long", () -> fullShelf(bench(7, 3, FORTY, "xy20z+y+1")), x -> x.spair(0, 1), FULL);
    }

    private static void p12_lastPlaceThenFull() {
        IdealBench x = bench(7, 2, "x", "y+1");
        for (int place = 2; place < 24; place++) {
            due("spair", x.spair(0, 1), place);
        }
        due("spair", x.spair(0, 1), FULL);
    }

    // ---- 13 value

    private static void p13_places() {
        placesAnswer("value", (x, place) -> x.value(place, 2, 3, 0, 0), 3, 4, 4, 5, 4);
    }

    private static void p13_noPlaces() {
        noPlacesRefused("value", (x, place) -> x.value(place, 2, 3, 0, 0));
    }

    private static void p13_nought() {
        due("value", bench(7, 2, "").value(0, 3, 4, 5, 6), 0);
        due("value of the draft", bench(7, 2).value(-1, 3, 4, 5, 6), 0);
    }

    private static void p13_exponent0OfNumber0() {
        due("5 at 0", bench(7, 4, "5").value(0, 0, 0, 0, 0), 5);
        due("x at 0", bench(7, 4, "x+3").value(0, 0, 1, 1, 1), 3);
        due("5 at 0 in a field of two", bench(2, 1, "1").value(0, 0, 0, 0, 0), 1);
    }

    private static void p13_eachVariable() {
        IdealBench x = bench(251, 4, "x", "y", "z", "w");
        for (int v = 0; v < 4; v++) {
            due("value", x.value(v, 11, 22, 33, 44), 11 * (v + 1));
        }
    }

    private static void p13_variablesThatThereAreNot() {
        for (int n = 1; n < 4; n++) {
            IdealBench x = bench(7, n, "x+1");
            due("value", x.value(0, 3, n > 1 ? 2 : MIN, n > 2 ? 2 : MAX, -1), 4);
        }
    }

    private static void p13_restsOfAnyInts() {
        int[] ints = {0, 1, 6, 7, 8, -1, -6, -7, -8, MIN, MIN + 1, MAX, MAX - 1};
        for (int at : ints) {
            IdealBench x = bench(7, 4, "x+2", "y2+2", "z3+2", "w30+2");
            BigInteger big = BigInteger.valueOf(at);
            BigInteger seven = BigInteger.valueOf(7);
            int[] exponents = {1, 2, 3, 30};
            for (int v = 0; v < 4; v++) {
                due("value at " + at, x.value(v, at, at, at, at), big.pow(exponents[v]).add(BigInteger.TWO).mod(seven).intValue());
            }
        }
    }

    private static void p13_sumsThatWrap() {
        IdealBench x = bench(251, 4, "250x30y30z30w30+250x29y29z29w29+250");
        due("at -1", x.value(0, -1, 250, -1, 250), 250 * 3 % 251);
        due("at 250 and 1", x.value(0, 250, 1, 1, 1), 250);
    }

    private static void p13_fortyTerms() {
        due("value", bench(251, 3, FORTY).value(0, 1, 1, 1, 0), 40);
        due("value", bench(7, 3, FORTY).value(0, 1, 1, 1, 0), 40 % 7);
    }

    // ---- 14 compare

    private static void p14_placesOfTheFirst() {
        placesAnswer("compare", (x, place) -> x.compare(place, 0), -1, 0, 1, 1, 1);
    }

    private static void p14_placesOfTheSecond() {
        placesAnswer("compare", (x, place) -> x.compare(0, place), 1, 0, -1, -1, -1);
    }

    private static void p14_noPlaceOfTheFirst() {
        noPlacesRefused("compare", (x, place) -> x.compare(place, 0));
    }

    private static void p14_noPlaceOfTheSecond() {
        noPlacesRefused("compare", (x, place) -> x.compare(0, place));
    }

    private static void p14_noPlaceOfBoth() {
        refused("compare", () -> bench(7, 2, "x"), x -> x.compare(5, 5), BAD);
    }

    private static void comparesAs(String one, String other, int want) {
        IdealBench x = bench(7, 3, one, other);
        due(one + " with " + other, x.compare(0, 1), want);
        due(other + " with " + one, x.compare(1, 0), -want);
        due(one + " with itself", x.compare(0, 0), 0);
    }

    private static void p14_noughts() {
        comparesAs("", "", 0);
        comparesAs("", "1", -1);
        comparesAs("", FORTY, -1);
    }

    private static void p14_oneIsOver() {
        comparesAs("x+y", "x+y+1", -1);
        comparesAs("x", "x+y+z+1", -1);
    }

    private static void p14_placeThatHeldALongerOne() {
        IdealBench x = bench(7, 2, "x2+x+y", "x2+y");
        x.drop(0);
        due("kept", kept(x, "x2"), 0);
        due("it is over", x.compare(0, 1), -1);
        due("it is over", x.compare(1, 0), 1);
    }

    private static void p14_monomialAheadOfNumber() {
        comparesAs("6y", "1x", -1);
        comparesAs("x+6z", "x+1y", -1);
    }

    private static void p14_numberAheadOfTheNextTerm() {
        comparesAs("1x+6y", "2x+1", -1);
        comparesAs("1x2+y+z", "2x2", -1);
    }

    private static void p14_monomialAheadOfLength() {
        comparesAs("x", "y+z+1", 1);
    }

    private static void p14_leastAndGreatestNumber() {
        comparesAs("1x", "6x", -1);
        comparesAs("6x", "6x", 0);
    }

    private static void p14_fortyTerms() {
        comparesAs(FORTY, FORTY, 0);
        comparesAs(FORTY, FORTY + "+xy", -1);
        comparesAs(FORTY, FORTY + "+6xy", 1);
    }

    private static void p14_byTheOrder() {
        due("by REVERSED", ordered(2, 7, 2, "x", "y2").compare(0, 1), -1);
        due("by LEX", ordered(0, 7, 2, "x", "y2").compare(0, 1), 1);
    }

    public static void main(String[] args) throws Exception {
        runCases(EdgesOfSumsTest.class, 9, 14);
    }
}
