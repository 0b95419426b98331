/** Each promise by hand: ordinary inputs, the edges that the document names, wrong inputs. */
public final class PromisesTest extends Kit {
    private static final int[] NO_PLACES = {24, 25, 1000, Integer.MAX_VALUE, Integer.MIN_VALUE, -2, -3, -20, 23};

    /** The digest by the document's words, out of what the object tells of itself. */
    private static long digestOf(IdealBench x) {
        long h = digestAt(x, 17, -1);
        for (int place = 0; place < 24; place++) {
            if (x.terms(place) != BAD) {
                h = digestAt(x, 31 * h + place, place);
            }
        }
        for (int i = 0; i < x.count(2); i++) {
            h = digestAt(x, h, -2 - i);
        }
        return h;
    }

    private static long digestAt(IdealBench x, long before, int place) {
        int terms = x.terms(place);
        int variables = x.count(1);
        long h = 31 * before + terms;
        for (int t = 0; t < terms; t++) {
            h = 31 * h + x.number(place, t);
            for (int v = 0; v < variables; v++) {
                h = 31 * h + x.exponent(place, t, v);
            }
        }
        return h;
    }

    /** Forty terms, all of x y^i z^j with i from 1. */
    private static void draftForty(IdealBench x) {
        for (int k = 0; k < 40; k++) {
            due("term " + k, x.term(1, 1, 1 + k % 20, k / 20, 0), k + 1);
        }
    }

    private static void promise1() {
        IdealBench x = new IdealBench(5, 2);
        int[] fresh = {5, 2, 0, 0, 0, 0, 0, 0, 0, 0, 0, 0};
        for (int what = 0; what < 12; what++) {
            due("count " + what, x.count(what), fresh[what]);
        }
        due("fuel", x.fuel(500), 500);
        due("order", x.order(2), 2);
        due("way", x.way(0), 0);
        due("rules", x.rules(0), 0);
        due("terms(-1)", x.terms(-1), 0);
        for (int place : NO_PLACES) {
            due("terms " + place, x.terms(place), BAD);
        }
        for (int place = 0; place < 24; place++) {
            due("terms " + place, x.terms(place), BAD);
        }
        due("pair(0)", x.pair(0), NONE);
        for (int p = -3; p < 300; p++) {
            due("P of " + p, new IdealBench(p, 1).count(0), java.math.BigInteger.valueOf(Math.max(p, 0)).isProbablePrime(30) && p <= 251 ? p : 7);
        }
        int[] far = {Integer.MIN_VALUE, Integer.MAX_VALUE, -7, 65537, 1009};
        for (int p : far) {
            due("P of " + p, new IdealBench(p, p).count(0), 7);
            due("N of " + p, new IdealBench(p, p).count(1), 3);
        }
        for (int n = -2; n < 8; n++) {
            due("N of " + n, new IdealBench(7, n).count(1), n >= 1 && n <= 4 ? n : 3);
        }
    }

    private static void promise2() {
        String[] stand = {
            "1x2+2xyz+3xz2+4y3+5y2z", "2xyz+3xz2+4y3+5y2z+1x2", "4y3+2xyz+5y2z+3xz2+1x2", "4y3+1x2+2xyz+5y2z+3xz2"
        };
        String all = "x2+2xyz+3xz2+4y3+5y2z";
        IdealBench x = new IdealBench(7, 3);
        int place = kept(x, all);
        draft(x, all);
        int was = 2;
        for (int order : new int[] {0, 1, 2, 3, 0, 3, 2, 1, 0, 2}) {
            due("order " + order, x.order(order), was);
            was = order;
            IdealBench z = new IdealBench(7, 3);
            due("kept", kept(z, all), 0);
            draft(z, all);
            z.order(order);
            dueText("the kept by " + order, told(z, 0), stand[order]);
            dueText("the draft by " + order, told(z, -1), stand[order]);
            IdealBench y = new IdealBench(7, 3);
            y.order(order);
            kept(y, all);
            dueText("made by " + order, told(y, 0), stand[order]);
        }
        due("order -1", x.order(-1), BAD);
        due("order 4", x.order(4), BAD);
        x.enter(place);
        due("order 4", x.order(4), BAD);
        due("order 0", x.order(0), NOT);
        dueText("the kept", told(x, place), stand[2]);
        x.clear();
        due("order 0", x.order(0), 2);
        IdealBench four = new IdealBench(11, 4);
        draft(four, "w+2w2+3zw+4z2+5z+6y+7x+8x2+9y2+10xy");
        four.order(3);
        dueText("four by 3", told(four, -1), "8x2+10xy+9y2+7x+6y+4z2+3zw+2w2+5z+1w");
        four.order(2);
        dueText("four by 2", told(four, -1), "8x2+10xy+9y2+4z2+3zw+2w2+7x+6y+5z+1w");
        four.order(1);
        dueText("four by 1", told(four, -1), "8x2+10xy+9y2+4z2+3zw+2w2+7x+6y+5z+1w");
        four.order(0);
        dueText("four by 0", told(four, -1), "8x2+10xy+7x+9y2+6y+4z2+3zw+5z+2w2+1w");
        IdealBench two = new IdealBench(7, 4);
        draft(two, "xw+2yz");
        two.order(1);
        dueText("graded", told(two, -1), "1xw+2yz");
        two.order(2);
        dueText("reversed", told(two, -1), "2yz+1xw");
    }

    private static void promise3() {
        IdealBench x = new IdealBench(7, 2);
        due("term", x.term(3, 1, 0, 0, 0), 1);
        due("term", x.term(2, 0, 1, 0, 0), 2);
        due("term", x.term(9, 1, 0, 0, 0), 2);
        dueText("draft", told(x, -1), "5x+2y");
        due("of rest 0", x.term(14, 2, 2, 0, 0), 2);
        due("term", x.term(2, 1, 0, 0, 0), 1);
        dueText("draft", told(x, -1), "2y");
        due("below 0", x.term(Integer.MIN_VALUE, 0, 0, 0, 0), 2);
        due("its rest", x.number(-1, 1), Math.floorMod(Integer.MIN_VALUE, 7));
        due("the greatest", x.term(Integer.MAX_VALUE, 30, 30, 0, 0), 3);
        due("its rest", x.number(-1, 0), Integer.MAX_VALUE % 7);
        for (int e : new int[] {31, -1, 256, Integer.MIN_VALUE, Integer.MAX_VALUE}) {
            due("x " + e, x.term(1, e, 0, 0, 0), BAD);
            due("y " + e, x.term(1, 0, e, 0, 0), BAD);
            due("z " + e, x.term(1, 0, 0, e, 0), BAD);
            due("w " + e, x.term(0, 0, 0, 0, e), BAD);
        }
        due("no z", x.term(1, 0, 0, 1, 0), BAD);
        due("no w", x.term(0, 0, 0, 0, 1), BAD);
        due("all as it was", x.terms(-1), 3);
        IdealBench y = new IdealBench(7, 4);
        draftForty(y);
        due("41st", y.term(1, 0, 0, 0, 30), LONG);
        due("41st of rest 0", y.term(7, 0, 0, 0, 30), 40);
        due("one that is there", y.term(1, 1, 1, 0, 0), 40);
        due("gone", y.term(-2, 1, 1, 0, 0), 39);
        due("again 40", y.term(1, 0, 0, 0, 30), 40);
        due("its exponent", y.exponent(-1, 0, 3), 30);
        due("no y in a field of one variable", new IdealBench(7, 1).term(1, 1, 1, 0, 0), BAD);
    }

    private static void promise4() {
        IdealBench x = new IdealBench(7, 2);
        draft(x, "x+1");
        due("keep", x.keep(), 0);
        due("draft", x.terms(-1), 0);
        dueText("kept", told(x, 0), "1x+1");
        due("nought, too", x.keep(), 1);
        due("nought", x.terms(1), 0);
        for (int place = 2; place < 24; place++) {
            due("keep", x.keep(), place);
        }
        draft(x, "y");
        due("keep", x.keep(), FULL);
        due("draft", x.terms(-1), 1);
        x.drop(7);
        x.drop(3);
        due("the least place", x.keep(), 3);
        dueText("kept", told(x, 3), "1y");
        due("draft", x.terms(-1), 0);
        due("the next", x.keep(), 7);
    }

    private static void promise5() {
        IdealBench x = new IdealBench(7, 2);
        kept(x, "x+y+1");
        kept(x, "");
        x.enter(0);
        for (int place : NO_PLACES) {
            due("drop " + place, x.drop(place), BAD);
        }
        due("the draft's", x.drop(-1), BAD);
        due("drop", x.drop(0), 3);
        due("again", x.drop(0), BAD);
        due("terms", x.terms(0), BAD);
        due("nought", x.drop(1), 0);
        due("held", x.count(10), 0);
        due("the basis stays", x.terms(-2), 3);
    }

    private static void promise6() {
        IdealBench x = new IdealBench(7, 2);
        kept(x, "x2+3xy+y");
        kept(x, "y3+2x");
        draft(x, "x");
        for (int place : NO_PLACES) {
            due("terms " + place, x.terms(place), BAD);
        }
        x.enter(0);
        x.enter(1);
        due("draft", x.terms(-1), 1);
        due("terms(0)", x.terms(0), 3);
        due("terms(1)", x.terms(1), 2);
        due("terms(2)", x.terms(2), BAD);
        due("terms(-2)", x.terms(-2), 3);
        due("terms(-3)", x.terms(-3), 2);
        due("terms(-4)", x.terms(-4), BAD);
        x.clear();
        due("terms(-2)", x.terms(-2), BAD);
    }

    private static void promise7() {
        IdealBench x = new IdealBench(7, 2);
        kept(x, "3x2+5xy+y");
        draft(x, "6y");
        x.enter(0);
        due("number", x.number(0, 0), 3);
        due("number", x.number(0, 1), 5);
        due("number", x.number(0, 2), 1);
        due("number", x.number(-1, 0), 6);
        due("monic", x.number(-2, 0), 1);
        due("monic", x.number(-2, 1), 4);
        due("monic", x.number(-2, 2), 5);
        for (int t : new int[] {3, -1, 40, Integer.MAX_VALUE, Integer.MIN_VALUE}) {
            due("number " + t, x.number(0, t), BAD);
        }
        due("of nothing", x.number(1, 0), BAD);
        due("of no one", x.number(-3, 0), BAD);
        due("draft", x.number(-1, 1), BAD);
        due("no place", x.number(24, 0), BAD);
    }

    private static void promise8() {
        IdealBench x = new IdealBench(7, 3);
        kept(x, "x30y29z28+5y2z3");
        x.enter(0);
        for (int place : new int[] {0, -2}) {
            due("x", x.exponent(place, 0, 0), 30);
            due("y", x.exponent(place, 0, 1), 29);
            due("z", x.exponent(place, 0, 2), 28);
            due("x", x.exponent(place, 1, 0), 0);
            due("y", x.exponent(place, 1, 1), 2);
            due("z", x.exponent(place, 1, 2), 3);
            due("w", x.exponent(place, 0, 3), BAD);
            due("v -1", x.exponent(place, 0, -1), BAD);
            due("far", x.exponent(place, 0, Integer.MAX_VALUE), BAD);
            due("t 2", x.exponent(place, 2, 0), BAD);
            due("t -1", x.exponent(place, -1, 0), BAD);
        }
        due("nought", x.exponent(-1, 0, 0), BAD);
        due("place", x.exponent(1, 0, 0), BAD);
        due("place", x.exponent(-3, 0, 0), BAD);
        IdealBench y = new IdealBench(7, 4);
        kept(y, "w30");
        due("w", y.exponent(0, 0, 3), 30);
        due("v 4", y.exponent(0, 0, 4), BAD);
    }

    private static void promise9() {
        IdealBench x = new IdealBench(7, 2);
        kept(x, "x2+3y+1");
        kept(x, "x+2y+5");
        due("sum", x.sum(0, 1, 2), 2);
        dueText("sum", told(x, 2), "1x2+2x+4");
        due("less", x.sum(0, 1, -1), 3);
        dueText("less", told(x, 3), "1x2+6x+1y+3");
        due("by 0", x.sum(0, 1, 0), 4);
        dueText("by 0", told(x, 4), "1x2+3y+1");
        due("by 7", x.sum(1, 0, 7), 5);
        dueText("by 7", told(x, 5), "1x+2y+5");
        due("of itself", x.sum(0, 0, -1), 6);
        due("nought", x.terms(6), 0);
        due("far", x.sum(6, 1, Integer.MIN_VALUE), 7);
        due("far", x.number(7, 0), Math.floorMod(Integer.MIN_VALUE, 7));
        x.enter(1);
        draft(x, "3x");
        due("of the draft and the basis", x.sum(-1, -2, 1), 8);
        dueText("of the draft and the basis", told(x, 8), "4x+2y+5");
        dueText("the draft", told(x, -1), "3x");
        for (int place : NO_PLACES) {
            if (place != -2) {
                due("sum " + place, x.sum(place, 0, 1), BAD);
                due("sum " + place, x.sum(0, place, 1), BAD);
            }
        }
        fullShelf(x);
        due("full", x.sum(0, 1, 1), FULL);
        due("bad ahead", x.sum(0, -9, 1), BAD);
        IdealBench y = new IdealBench(7, 3);
        draftForty(y);
        y.keep();
        kept(y, "xyz+y30");
        kept(y, "xy+z30");
        due("long", y.sum(0, 1, 1), LONG);
        due("not long", y.sum(0, 1, 7), 3);
        due("one goes, one comes", y.sum(0, 2, -1), 4);
        due("forty", y.terms(4), 40);
        due("long", y.sum(1, 0, 1), LONG);
        due("held", y.count(10), 5);
        fullShelf(y);
        due("full ahead of long", y.sum(0, 1, 1), FULL);
    }

    private static void promise10() {
        IdealBench x = new IdealBench(7, 2);
        kept(x, "x+2y");
        kept(x, "x-2y+1");
        due("product", x.product(0, 1), 2);
        dueText("product", told(x, 2), "1x2+3y2+1x+2y");
        kept(x, "");
        due("by nought", x.product(0, 3), 4);
        due("nought", x.terms(4), 0);
        due("of nought", x.product(3, 0), 5);
        due("square", x.product(0, 0), 6);
        dueText("square", told(x, 6), "1x2+4xy+4y2");
        for (int place : NO_PLACES) {
            due("product " + place, x.product(place, 0), BAD);
            due("product " + place, x.product(0, place), BAD);
        }
        kept(x, "x30+y");
        kept(x, "x15");
        kept(x, "y30");
        due("great", x.product(7, 0), GREAT);
        due("great", x.product(0, 7), GREAT);
        due("great below the head", x.product(9, 7), GREAT);
        due("not great", x.product(8, 8), 10);
        due("its exponent", x.exponent(10, 0, 0), 30);
        fullShelf(x);
        due("full ahead of great", x.product(7, 0), FULL);
        due("bad ahead of full", x.product(7, 99), BAD);
        greatOrLong();
    }

    private static void greatOrLong() {
        IdealBench y = new IdealBench(2, 3);
        draftForty(y);
        y.keep();
        kept(y, "x29");
        kept(y, "z30+x2");
        kept(y, "x30");
        kept(y, "z+x");
        due("not great", y.product(0, 1), 5);
        due("great ahead of long", y.product(0, 2), GREAT);
        due("great", y.product(0, 3), GREAT);
        due("long", y.product(0, 4), LONG);
        due("long", y.product(4, 0), LONG);
        due("held", y.count(10), 6);
        // the products of terms are more than forty, what they end as is not: (sum of x^i, i < 16)^2 over 2
        IdealBench z = new IdealBench(2, 1);
        for (int i = 0; i < 16; i++) {
            z.term(1, i, 0, 0, 0);
        }
        z.keep();
        due("many go", z.product(0, 0), 1);
        due("those that stay", z.terms(1), 16);
        due("even ones", z.exponent(1, 1, 0), 28);
        // f (y + 1) (y - 1) of 40 TERMS: what meets goes
        IdealBench w = new IdealBench(7, 2);
        for (int i = 0; i < 20; i++) {
            w.term(1, 0, i, 0, 0);
        }
        w.keep();
        kept(w, "y-1");
        due("what meets goes", w.product(0, 1), 2);
        dueText("what meets goes", told(w, 2), "1y20+6");
    }

    private static void promise11() {
        IdealBench x = new IdealBench(5, 2);
        kept(x, "2x3y2+x5+3x+4y+1");
        due("by x", x.derived(0, 0), 1);
        dueText("by x", told(x, 1), "1x2y2+3");
        due("by y", x.derived(0, 1), 2);
        dueText("by y", told(x, 2), "4x3y+4");
        due("by z", x.derived(0, 2), BAD);
        due("by -1", x.derived(0, -1), BAD);
        due("far", x.derived(0, Integer.MIN_VALUE), BAD);
        for (int place : NO_PLACES) {
            due("derived " + place, x.derived(place, 0), BAD);
        }
        due("of nought", x.derived(-1, 0), 3);
        due("nought", x.terms(3), 0);
        x.enter(0);
        due("of the basis", x.derived(-2, 0), 4);
        dueText("of the basis", told(x, 4), "1x2y2+3");
        fullShelf(x);
        due("full", x.derived(0, 0), FULL);
        due("bad ahead", x.derived(0, 5), BAD);
        IdealBench y = new IdealBench(251, 3);
        draftForty(y);
        due("forty", y.derived(-1, 0), 0);
        due("forty", y.terms(0), 40);
        due("by y", y.derived(-1, 1), 1);
        due("forty", y.terms(1), 40);
        due("the first", y.number(1, 0), 20);
        due("by z", y.derived(-1, 2), 2);
        due("those that have a z", y.terms(2), 20);
    }

    private static void promise12() {
        IdealBench x = new IdealBench(7, 2);
        kept(x, "2x2y+3y");
        kept(x, "3xy2+x+1");
        // y (x2y + 5y) - x (xy2 + 5x + 5)
        due("s", x.spair(0, 1), 2);
        dueText("s", told(x, 2), "2x2+5y2+2x");
        due("other way about", x.spair(1, 0), 3);
        dueText("other way about", told(x, 3), "5x2+2y2+5x");
        due("of itself", x.spair(0, 0), 4);
        due("nought", x.terms(4), 0);
        due("nought", x.spair(0, 4), BAD);
        due("nought", x.spair(4, 0), BAD);
        due("the draft", x.spair(-1, 0), BAD);
        for (int place : NO_PLACES) {
            due("spair " + place, x.spair(place, 0), BAD);
            due("spair " + place, x.spair(0, place), BAD);
        }
        x.order(0);
        kept(x, "x+y30");
        kept(x, "xy+1");
        due("great", x.spair(5, 6), GREAT);
        due("great", x.spair(6, 5), GREAT);
        kept(x, "x30+y30");
        kept(x, "x+1");
        due("not great", x.spair(7, 8), 9);
        dueText("not great", told(x, 9), "6x29+1y30");
        fullShelf(x);
        due("full ahead of great", x.spair(5, 6), FULL);
        due("bad ahead of full", x.spair(5, 4), BAD);
        IdealBench y = new IdealBench(7, 3);
        draftForty(y);
        y.keep();
        kept(y, "xy20z+x2+y2");
        kept(y, "x3y20z+x30z+x29z+x28z");
        due("the heads go, the others are 41", y.spair(0, 1), LONG);
        due("41", y.spair(1, 0), LONG);
        due("held", y.count(10), 3);
        kept(y, "xy20z+z2");
        due("forty", y.spair(0, 3), 4);
        due("forty", y.terms(4), 40);
    }

    private static void promise13() {
        IdealBench x = new IdealBench(7, 4);
        kept(x, "2x3y2+5zw+4");
        // 2 * 27 * 4 + 5 * 5 * 6 + 4
        due("value", x.value(0, 3, 2, 5, 6), (216 + 150 + 4) % 7);
        due("by rests", x.value(0, -4, 9, 12, -1), (216 + 150 + 4) % 7);
        due("at 0", x.value(0, 0, 0, 0, 0), 4);
        due("at 7", x.value(0, 7, -7, 14, 0), 4);
        due("far", x.value(0, Integer.MIN_VALUE, Integer.MAX_VALUE, 0, 0),
            java.math.BigInteger.valueOf(Integer.MIN_VALUE).pow(3).multiply(java.math.BigInteger.valueOf(Integer.MAX_VALUE).pow(2))
                .multiply(java.math.BigInteger.TWO).add(java.math.BigInteger.valueOf(4)).mod(java.math.BigInteger.valueOf(7)).intValue());
        due("nought", x.value(-1, 1, 1, 1, 1), 0);
        for (int place : NO_PLACES) {
            due("value " + place, x.value(place, 1, 1, 1, 1), BAD);
        }
        draft(x, "w30");
        x.enter(-1);
        due("the draft", x.value(-1, 0, 0, 0, 3), 1);
        due("the basis", x.value(-2, 0, 0, 0, 0), 0);
        IdealBench y = new IdealBench(251, 2);
        kept(y, "250x30y30+250");
        due("the greatest", y.value(0, 250, 250, 9, 9), 249);
        due("z and w are of no weight", y.value(0, 250, 250, -1, 77), 249);
    }

    private static void promise14() {
        IdealBench x = new IdealBench(7, 2);
        String[] rising = {"", "1", "2", "y", "y+1", "3y", "x", "x+y", "x+y+5", "x+2y", "2x", "2x+1", "y2", "xy", "x2", "6x2"};
        for (String told : rising) {
            kept(x, told);
        }
        for (int a = 0; a < rising.length; a++) {
            for (int b = 0; b < rising.length; b++) {
                due(rising[a] + " to " + rising[b], x.compare(a, b), Integer.compare(a, b));
            }
        }
        x.enter(14);
        draft(x, "x2");
        due("draft and basis", x.compare(-1, -2), 0);
        for (int place : new int[] {16, 24, 99, -3, Integer.MIN_VALUE, Integer.MAX_VALUE}) {
            due("compare " + place, x.compare(place, 0), BAD);
            due("compare " + place, x.compare(0, place), BAD);
        }
        x.clear();
        x.order(0);
        due("by the order", x.compare(12, 6), -1);
        x.order(2);
        due("by the order", x.compare(12, 6), 1);
        x.drop(7);
        draft(x, "x-x2");
        due("a place that held more", x.keep(), 7);
        kept(x, "x+1");
        due("one that is over is less", x.compare(7, 16), -1);
        due("the other is more", x.compare(16, 7), 1);
        due("alike", x.compare(7, 6), 0);
    }

    private static void promise15() {
        IdealBench x = new IdealBench(7, 2);
        due("fuel", x.fuel(0), 500);
        due("fuel", x.fuel(2000), 0);
        due("fuel", x.fuel(2001), BAD);
        due("fuel", x.fuel(-1), BAD);
        due("fuel", x.fuel(Integer.MIN_VALUE), BAD);
        due("fuel", x.fuel(3), 2000);
        due("fuel", x.fuel(3), 3);
        kept(x, "x");
        x.enter(0);
        draft(x, "x3+x2+x+1");
        due("3 of 3", x.left(-1), 1);
        dueText("left", told(x, 1), "1");
        draft(x, "xy");
        due("one more", x.left(-1), SPENT);
        due("made", x.count(11), 3);
        due("in all", x.count(8), 6);
        due("held", x.count(10), 2);
        muchFuel();
    }

    /** y takes one reduction for itself and 31 for each of 30 z, 30 for as many w. */
    private static void muchFuel() {
        IdealBench x = new IdealBench(7, 4);
        x.order(0);
        for (String told : new String[] {"w-1", "z-w30", "y-z30w30"}) {
            x.enter(kept(x, told));
        }
        for (int e = 1; e <= 30; e++) {
            x.term(1, e, 0, 0, 0);
        }
        draft(x, "y2z2w16");
        x.fuel(1999);
        due("one too few", x.left(-1), SPENT);
        due("made", x.count(11), 1999);
        x.fuel(2000);
        due("all", x.left(-1), 3);
        due("made", x.count(11), 2000);
        due("left", x.terms(3), 31);
    }

    private static void promise16() {
        IdealBench x = new IdealBench(7, 2);
        due("way", x.way(1), 0);
        due("way", x.way(1), 1);
        due("way", x.way(2), BAD);
        due("way", x.way(-1), BAD);
        due("way", x.way(0), 1);
        // M of (0, 1) and of (0, 2) is x3y, of (1, 2) x2y
        kept(x, "x3");
        kept(x, "x2y");
        kept(x, "xy");
        for (int i = 0; i < 3; i++) {
            x.enter(i);
        }
        x.way(1);
        due("work", x.work(1), 1);
        due("pairs", x.pair(0), 1);
        due("pairs: (1, 2) is done", x.pair(1), 2);
        due("work", x.work(1), 1);
        due("of like ones the one that waits longest", x.pair(0), 2);
        x.clear();
        for (int i = 0; i < 3; i++) {
            x.enter(i);
        }
        x.way(0);
        due("work", x.work(1), 1);
        due("way 0: the first", x.pair(0), 2);
        due("way 0: the first", x.pair(1), 102);
        IdealBench y = new IdealBench(7, 2);
        for (String told : new String[] {"x2", "x2y3", "x2y"}) {
            y.enter(kept(y, told));
        }
        y.way(1);
        y.work(1);
        due("the second is the least", y.pair(0), 1);
        due("the second is the least", y.pair(1), 102);
    }

    private static void promise17() {
        IdealBench x = new IdealBench(7, 3);
        for (int bits = 0; bits < 4; bits++) {
            due("rules", x.rules(bits), Math.max(bits - 1, 0));
        }
        due("rules", x.rules(4), BAD);
        due("rules", x.rules(-1), BAD);
        due("rules", x.rules(Integer.MAX_VALUE), BAD);
        due("rules", x.rules(0), 3);
        kept(x, "x+1");
        kept(x, "y+1");
        kept(x, "xy+z");
        x.rules(1);
        for (int i = 0; i < 3; i++) {
            x.enter(i);
        }
        x.fuel(0);
        due("coprime is passed without fuel", x.work(1), 1);
        due("passed", x.count(4), 1);
        due("nothing was left of it", x.count(7), 0);
        due("not coprime", x.work(1), SPENT);
        x.fuel(500);
        x.rules(3);
        // of (0, 2) M = xy; the head of 1 divides it, but (1, 2) waits
        due("not chained: (1, 2) waits", x.work(1), 1);
        due("chain", x.count(5), 0);
        due("something was left", x.count(6), 1);
        // of (1, 2) M = xy, the head of 0 divides it, (0, 1) and (0, 2) wait no more
        due("the next", x.pair(0), 102);
        due("chained", x.work(1), 1);
        due("chain", x.count(5), 1);
        due("coprime is asked ahead", x.work(1), 1);
        due("coprime", x.count(4), 2);
        due("chain", x.count(5), 1);
        IdealBench y = new IdealBench(7, 2);
        kept(y, "1");
        kept(y, "x");
        kept(y, "y");
        y.rules(2);
        for (int i = 0; i < 3; i++) {
            y.enter(i);
        }
        due("rule 1 is off: 0 of 1 and 2 is asked of its S", y.work(2), 2);
        due("chain", y.count(5), 0);
        due("nothing left", y.count(7), 2);
        due("k may be ahead of both", y.work(1), 1);
        due("chain", y.count(5), 1);
        for (int bits = 0; bits < 2; bits++) {
            IdealBench z = new IdealBench(7, 2);
            z.rules(bits);
            for (String told : new String[] {"x", "x2", "x3"}) {
                z.enter(kept(z, told));
            }
            due("chain is off", z.work(3), 3);
            due("chain is off", z.count(5), 0);
            due("chain is off", z.count(7), 3);
        }
    }

    private static void promise18() {
        IdealBench x = new IdealBench(7, 2);
        kept(x, "3x+2y+1");
        kept(x, "");
        due("enter", x.enter(0), 0);
        dueText("monic", told(x, -2), "1x+3y+5");
        dueText("the one on the shelf", told(x, 0), "3x+2y+1");
        due("nought", x.enter(1), BAD);
        due("the draft is nought", x.enter(-1), BAD);
        for (int place : NO_PLACES) {
            if (place != -2) {
                due("enter " + place, x.enter(place), BAD);
            }
        }
        draft(x, "2y");
        due("the draft", x.enter(-1), 1);
        dueText("it stays", told(x, -1), "2y");
        due("one of the basis", x.enter(-3), 2);
        due("a pair", x.pair(0), 1);
        due("a pair", x.pair(1), 2);
        due("a pair", x.pair(2), 102);
        for (int i = 3; i < 18; i++) {
            due("enter", x.enter(0), i);
        }
        due("full", x.enter(0), FULL);
        due("bad ahead", x.enter(1), BAD);
        due("pairs", x.count(3), 153);
        due("the last pair", x.pair(152), 1617);
        due("no more pairs", x.pair(153), NONE);
        IdealBench y = new IdealBench(7, 2);
        kept(y, "x");
        y.enter(0);
        y.tidy();
        due("tidy", y.count(9), 1);
        y.enter(-1);
        due("refused, it stays", y.count(9), 1);
        y.enter(0);
        due("no more tidy", y.count(9), 0);
    }

    private static void promise19() {
        IdealBench x = new IdealBench(7, 2);
        due("empty", x.clear(), 0);
        kept(x, "x2+y");
        kept(x, "xy+1");
        x.enter(0);
        x.enter(1);
        x.work(1);
        due("clear", x.clear(), 3);
        due("none", x.count(2), 0);
        due("no pairs", x.count(3), 0);
        due("no pair", x.pair(0), NONE);
        due("nothing there", x.terms(-2), BAD);
        due("counted since the beginning", x.count(6), 1);
        due("numbers from 0", x.enter(1), 0);
        due("no pairs", x.count(3), 0);
        x.tidy();
        x.clear();
        due("not tidy", x.count(9), 0);
        due("not tidy", x.standing(), NOT);
    }

    private static void promise20() {
        IdealBench x = new IdealBench(7, 2);
        due("none waits", x.work(5), 0);
        for (int pairs : new int[] {0, -1, 201, Integer.MAX_VALUE, Integer.MIN_VALUE}) {
            due("work " + pairs, x.work(pairs), BAD);
        }
        due("none waits", x.work(200), 0);
        kept(x, "2x2-2y");
        kept(x, "xy-1");
        x.enter(0);
        x.enter(1);
        // the S is -y2 + x, made monic; then (0, 2) takes two reductions, (1, 2) one
        due("one", x.work(1), 1);
        dueText("what came", told(x, -4), "1y2+6x");
        due("no reduction", x.count(11), 0);
        due("pairs", x.pair(0), 2);
        due("pairs", x.pair(1), 102);
        x.fuel(1);
        long h = x.digest();
        due("spent", x.work(2), SPENT);
        due("of its latest pair", x.count(11), 1);
        due("in all", x.count(8), 1);
        due("it waits", x.pair(0), 2);
        due("they wait", x.count(3), 2);
        due("nothing left of none", x.count(7), 0);
        due("all as ahead", x.digest(), h);
        x.fuel(2);
        due("two", x.work(200), 2);
        due("of the latest", x.count(11), 1);
        due("in all", x.count(8), 4);
        due("something", x.count(6), 1);
        due("nothing", x.count(7), 2);
        due("none waits", x.work(1), 0);
        due("none made", x.count(11), 0);
        workFull();
        workFailures();
    }

    private static void workFull() {
        IdealBench x = new IdealBench(7, 2);
        kept(x, "x2-y");
        kept(x, "xy-1");
        kept(x, "x3");
        x.enter(0);
        x.enter(0);
        x.enter(1);
        for (int i = 3; i < 18; i++) {
            x.enter(0);
        }
        due("the second meets full", x.work(9), FULL);
        due("the first is done", x.count(7), 1);
        due("nothing is counted as left", x.count(6), 0);
        due("the second waits", x.pair(0), 2);
        due("they wait", x.count(3), 152);
        due("basis", x.count(2), 18);
        due("again", x.work(1), FULL);
        x.clear();
        x.enter(0);
        x.enter(2);
        for (int i = 2; i < 18; i++) {
            x.enter(0);
        }
        // the S is x (x2 - y) - x3 = -xy, that no head divides
        due("full", x.work(1), FULL);
        due("no reduction", x.count(11), 0);
        x.clear();
        x.enter(0);
        for (int i = 1; i < 17; i++) {
            x.enter(0);
        }
        kept(x, "x4+y+1");
        x.enter(3);
        due("sixteen", x.work(120), 120);
        due("none left", x.work(16), 16);
        x.fuel(500);
        x.clear();
        x.enter(3);
        for (int i = 1; i < 18; i++) {
            x.enter(0);
        }
        // x2 (x2 - y) - (x4 + y + 1): -x2y - y - 1, one reduction: -y2 - y - 1 is left
        int before = x.count(8);
        due("full behind a reduction", x.work(1), FULL);
        due("that is counted", x.count(11), 1);
        due("in all, too", x.count(8), before + 1);
    }

    private static void workFailures() {
        IdealBench x = new IdealBench(7, 2);
        x.order(0);
        kept(x, "x+y30");
        kept(x, "xy+1");
        x.enter(0);
        x.enter(1);
        due("great", x.work(1), GREAT);
        due("it waits", x.count(3), 1);
        due("no reduction", x.count(11), 0);
        x.rules(2);
        due("great", x.work(1), GREAT);
        IdealBench y = new IdealBench(7, 3);
        draftForty(y);
        y.keep();
        kept(y, "xy20z+x2+y2");
        y.enter(0);
        y.enter(0);
        y.enter(1);
        due("long, the first is done", y.work(3), LONG);
        due("done", y.count(7), 1);
        due("it waits", y.pair(0), 2);
    }

    private static void promise21() {
        IdealBench x = new IdealBench(7, 2);
        due("empty", x.tidy(), 0);
        due("tidy", x.count(9), 1);
        kept(x, "x2-y");
        kept(x, "xy-1");
        kept(x, "x3");
        x.enter(0);
        due("not tidy", x.count(9), 0);
        x.enter(1);
        due("a pair waits", x.tidy(), NOT);
        x.work(200);
        due("tidy", x.tidy(), 3);
        dueText("the least first", told(x, -2), "1y2+6x");
        dueText("then", told(x, -3), "1xy+6");
        dueText("then", told(x, -4), "1x2+6y");
        due("no pairs", x.count(3), 0);
        x.enter(2);
        x.work(200);
        due("all goes", x.tidy(), 1);
        dueText("one", told(x, -2), "1");
        due("again", x.tidy(), 1);
        tidyTails();
        tidyFailures();
    }

    private static void tidyTails() {
        IdealBench x = new IdealBench(7, 3);
        x.order(0);
        x.rules(1);
        kept(x, "x+2y+z");
        kept(x, "y+3z");
        kept(x, "z4+z2");
        kept(x, "y+3z");
        kept(x, "x2y+3x2z");
        for (int i = 0; i < 3; i++) {
            x.enter(i);
        }
        due("passed", x.work(200), 3);
        due("tidy", x.tidy(), 3);
        due("of all", x.count(11), 1);
        dueText("the tail", told(x, -4), "1x+2z");
        x.enter(3);
        x.enter(4);
        x.work(200);
        int had = x.count(2);
        due("the later of like heads and the multiple are gone", x.tidy(), 3);
        due("they had been", had, 5);
        dueText("least", told(x, -2), "1z4+1z2");
        dueText("mid", told(x, -3), "1y+3z");
        due("they are gone", x.count(2), 3);
        due("they are gone", x.terms(-5), BAD);
        IdealBench z = new IdealBench(7, 4);
        z.rules(1);
        for (String told : new String[] {"y3", "x5", "w2", "z4", "1x5w2"}) {
            z.enter(kept(z, told));
        }
        z.work(200);
        due("four stay", z.tidy(), 4);
        String[] heads = {"1w2", "1y3", "1z4", "1x5"};
        for (int i = 0; i < 4; i++) {
            dueText("the least first", told(z, -2 - i), heads[i]);
        }
        // of like heads the first stays
        IdealBench y = new IdealBench(7, 2);
        y.fuel(0);
        kept(y, "x2+xy+y2");
        y.enter(0);
        y.enter(0);
        y.work(1);
        due("one", y.tidy(), 1);
    }

    private static void tidyFailures() {
        IdealBench x = new IdealBench(7, 3);
        x.order(0);
        x.rules(1);
        for (int k = 0; k < 38; k++) {
            x.term(1, k < 31 ? 2 : 1, 0, k % 31, 0);
        }
        draft(x, "x3+y");
        x.keep();
        kept(x, "y+z+1");
        kept(x, "y+z");
        x.enter(0);
        x.enter(1);
        due("coprime", x.work(1), 1);
        long h = x.digest();
        due("a head and forty more", x.tidy(), LONG);
        due("as it was", x.digest(), h);
        due("as it was", x.count(9), 0);
        due("made", x.count(11), 1);
        x.fuel(0);
        due("spent", x.tidy(), SPENT);
        due("none made", x.count(11), 0);
        due("as it was", x.digest(), h);
        x.fuel(1);
        x.clear();
        x.enter(0);
        x.enter(2);
        x.work(1);
        due("a head and 39 more", x.tidy(), 2);
        due("forty", x.terms(-3), 40);
        IdealBench y = new IdealBench(7, 3);
        y.order(0);
        y.rules(1);
        kept(y, "y+z30");
        kept(y, "x+yz");
        kept(y, "x+y");
        y.enter(0);
        y.enter(1);
        y.work(1);
        due("great", y.tidy(), GREAT);
        due("not tidy", y.count(9), 0);
        y.clear();
        kept(y, "z+1");
        y.enter(0);
        y.enter(3);
        y.enter(2);
        y.work(3);
        y.fuel(30);
        h = y.digest();
        // y takes 30 for its z30, x one of y and one of what y is then
        due("the fuel is of all", y.tidy(), SPENT);
        due("made", y.count(11), 30);
        due("as it was", y.digest(), h);
        y.fuel(31);
        due("as they are then", y.tidy(), 3);
        dueText("x", told(y, -4), "1x+6");
    }

    private static void promise22() {
        IdealBench x = new IdealBench(7, 2);
        kept(x, "x3+2y");
        due("by none", x.left(0), 1);
        dueText("by none", told(x, 1), "1x3+2y");
        due("of nought", x.left(-1), 2);
        due("nought", x.terms(2), 0);
        kept(x, "x2+y");
        kept(x, "x2+1");
        x.enter(3);
        x.enter(4);
        due("by the first that divides", x.left(0), 5);
        dueText("by the first that divides", told(x, 5), "6xy+2y");
        due("not monic", x.left(0), 6);
        due("reductions", x.count(11), 1);
        due("of one of the basis", x.left(-3), 7);
        dueText("of one of the basis", told(x, 7), "6y+1");
        for (int place : NO_PLACES) {
            if (place != -2 && place != -3) {
                due("left " + place, x.left(place), BAD);
            }
        }
        due("BAD is not the latest", x.count(11), 1);
        x.fuel(0);
        due("spent", x.left(0), SPENT);
        due("none made", x.count(11), 0);
        x.fuel(500);
        x.left(-2);
        due("one made", x.count(11), 1);
        fullShelf(x);
        int before = x.count(8);
        due("full", x.left(0), FULL);
        due("none made", x.count(11), 0);
        due("none in all", x.count(8), before);
        due("bad ahead", x.left(-9), BAD);
        leftFailures();
    }

    private static void leftFailures() {
        IdealBench x = new IdealBench(7, 2);
        x.order(0);
        kept(x, "x+y30");
        kept(x, "xy");
        x.enter(0);
        due("great", x.left(1), GREAT);
        due("held", x.count(10), 2);
        IdealBench y = new IdealBench(7, 3);
        y.order(0);
        kept(y, "x+z30+z29");
        y.enter(0);
        for (int k = 0; k < 39; k++) {
            y.term(1, 0, 1 + k % 20, k / 20, 0);
        }
        y.term(1, 1, 0, 0, 0);
        due("41 behind a reduction", y.left(-1), LONG);
        due("a reduction", y.count(11), 1);
        y.term(-1, 0, 1, 0, 0);
        due("forty", y.left(-1), 1);
        due("forty", y.terms(1), 40);
        IdealBench z = new IdealBench(7, 3);
        z.order(0);
        kept(z, "y+z7+z6+z5+z4+z3+z2+z+1");
        z.enter(0);
        for (int k = 0; k < 33; k++) {
            z.term(1, k < 20 ? 2 : 1, 0, k % 20, 0);
        }
        z.term(1, 0, 1, 0, 0);
        due("the 41st that would go over", z.left(-1), LONG);
        due("behind a reduction", z.count(11), 1);
        z.term(-1, 2, 0, 0, 0);
        due("forty go over", z.left(-1), 1);
        due("forty", z.terms(1), 40);
    }

    private static void promise23() {
        IdealBench x = new IdealBench(7, 2);
        kept(x, "x2-y");
        kept(x, "xy-1");
        kept(x, "x3-1");
        kept(x, "x3");
        kept(x, "");
        due("not tidy", x.member(0), NOT);
        due("bad ahead", x.member(9), BAD);
        x.tidy();
        due("nought", x.member(4), 1);
        due("of none", x.member(0), 0);
        x.enter(0);
        x.enter(1);
        x.work(200);
        due("not tidy", x.member(0), NOT);
        x.tidy();
        due("in", x.member(0), 1);
        due("in", x.member(1), 1);
        due("in", x.member(2), 1);
        due("made", x.count(11), 2);
        due("not in", x.member(3), 0);
        due("nought", x.member(-1), 1);
        due("one of the basis", x.member(-3), 1);
        for (int place : new int[] {5, 24, -5, Integer.MAX_VALUE, Integer.MIN_VALUE}) {
            due("member " + place, x.member(place), BAD);
        }
        x.fuel(1);
        due("spent", x.member(2), SPENT);
        due("held", x.count(10), 5);
        fullShelf(x);
        due("no place is needed", x.member(1), 1);
        IdealBench y = new IdealBench(7, 2);
        y.order(0);
        kept(y, "x+y30");
        kept(y, "xy");
        y.enter(0);
        y.tidy();
        due("great", y.member(1), GREAT);
    }

    private static void promise24() {
        IdealBench x = new IdealBench(7, 2);
        kept(x, "x");
        for (int i = 0; i < 13; i++) {
            x.enter(0);
        }
        int k = 0;
        for (int j = 1; j < 13; j++) {
            for (int i = 0; i < j; i++) {
                due("pair " + k, x.pair(k++), 100 * i + j);
            }
        }
        due("behind the last", x.pair(k), NONE);
        due("-1", x.pair(-1), NONE);
        due("far", x.pair(Integer.MAX_VALUE), NONE);
        due("far", x.pair(Integer.MIN_VALUE), NONE);
        x.work(2);
        due("the others move up", x.pair(0), 102);
        due("one fewer", x.pair(k - 2), NONE);
        IdealBench y = new IdealBench(7, 2);
        kept(y, "x2-y");
        kept(y, "xy-1");
        kept(y, "x2-y");
        for (int i = 0; i < 3; i++) {
            y.enter(i);
        }
        y.work(1);
        int[] pairs = {2, 102, 3, 103, 203, NONE};
        for (int i = 0; i < pairs.length; i++) {
            due("behind those that wait", y.pair(i), pairs[i]);
        }
    }

    private static void tidyOf(IdealBench x, String... all) {
        x.clear();
        for (String told : all) {
            int place = kept(x, told);
            x.enter(place);
            x.drop(place);
        }
        x.work(200);
        due("tidy", x.tidy(), all.length);
    }

    private static void promise25() {
        IdealBench x = new IdealBench(7, 2);
        due("not tidy", x.standing(), NOT);
        x.tidy();
        due("of none", x.standing(), NONE);
        tidyOf(x, "x3", "y2", "xy");
        due("standing", x.standing(), 4);
        tidyOf(x, "x20", "y15");
        due("300", x.standing(), 300);
        tidyOf(x, "x20", "y16", "xy15");
        due("301", x.standing(), NONE);
        tidyOf(x, "x30", "y30");
        due("900", x.standing(), NONE);
        tidyOf(x, "x30", "y10");
        due("300", x.standing(), 300);
        tidyOf(x, "x");
        due("endlessly many", x.standing(), NONE);
        tidyOf(x, "y30", "xy");
        due("endlessly many", x.standing(), NONE);
        tidyOf(x, "3");
        due("none stands", x.standing(), 0);
        x.enter(-2);
        due("not tidy", x.standing(), NOT);
        IdealBench one = new IdealBench(7, 1);
        one.tidy();
        due("endlessly many, though 31 have an exponent to 30", one.standing(), NONE);
        tidyOf(one, "x30+1");
        due("thirty", one.standing(), 30);
        IdealBench four = new IdealBench(7, 4);
        tidyOf(four, "x2+w", "y3", "z5", "w10");
        due("300", four.standing(), 300);
        tidyOf(four, "x30", "y30", "z30", "w30");
        due("more", four.standing(), NONE);
        tidyOf(four, "x30", "y30", "z30", "w30", "xy", "xz", "xw", "yz", "yw", "zw");
        due("on the edges", four.standing(), 4 * 29 + 1);
    }

    private static void promise26() {
        IdealBench x = new IdealBench(7, 2);
        due("not tidy", x.stands(0, 0), NOT);
        due("NOT ahead", x.stands(-1, 9), NOT);
        int[][] byOrder = {
            {0, 0, 0, 1, 0, 2, 1, 0, 1, 1, 2, 0}, {0, 0, 0, 1, 1, 0, 0, 2, 1, 1, 2, 0}, {0, 0, 0, 1, 1, 0, 0, 2, 1, 1, 2, 0},
        };
        for (int order = 0; order < 3; order++) {
            x.clear();
            x.order(order);
            tidyOf(x, "x3", "xy2", "x2y", "y3");
            due("standing", x.standing(), 6);
            for (int k = 0; k < 12; k++) {
                due("stands by " + order + " " + k, x.stands(k / 2, k % 2), byOrder[order][k]);
            }
        }
        due("no such", x.stands(6, 0), BAD);
        due("no such", x.stands(-1, 0), BAD);
        due("no such", x.stands(Integer.MAX_VALUE, 0), BAD);
        due("no such variable", x.stands(0, 2), BAD);
        due("no such variable", x.stands(0, -1), BAD);
        tidyOf(x, "x");
        due("endlessly many", x.stands(0, 0), BAD);
        tidyOf(x, "1");
        due("none", x.stands(0, 0), BAD);
        tidyOf(x, "x20", "y15");
        due("the last", x.stands(299, 0), 19);
        due("the last", x.stands(299, 1), 14);
        due("behind", x.stands(300, 0), BAD);
        IdealBench y = new IdealBench(7, 3);
        tidyOf(y, "x2", "y2", "z2");
        // 1 z y x yz xz xy xyz
        int[] codes = {0, 1, 10, 100, 11, 101, 110, 111};
        for (int i = 0; i < 8; i++) {
            due("reversed " + i, 100 * y.stands(i, 0) + 10 * y.stands(i, 1) + y.stands(i, 2), codes[i]);
        }
        y.clear();
        y.order(3);
        tidyOf(y, "x2", "y2", "z2");
        int[] split = {0, 1, 10, 11, 100, 101, 110, 111};
        for (int i = 0; i < 8; i++) {
            due("split " + i, 100 * y.stands(i, 0) + 10 * y.stands(i, 1) + y.stands(i, 2), split[i]);
        }
    }

    private static void promise27() {
        IdealBench x = new IdealBench(7, 3);
        due("not tidy", x.without(0), NOT);
        due("bad ahead", x.without(4), BAD);
        due("bad ahead", x.without(-1), BAD);
        x.order(0);
        tidyOf(x, "x2-y", "y3-z", "z5-1");
        due("0", x.without(0), 3);
        due("1", x.without(1), 2);
        due("2", x.without(2), 1);
        due("3", x.without(3), 0);
        due("4", x.without(4), BAD);
        due("-1", x.without(-1), BAD);
        due("far", x.without(Integer.MAX_VALUE), BAD);
        x.clear();
        x.order(2);
        tidyOf(x, "y2-x", "z3-y");
        due("in any of their terms", x.without(1), 1);
        tidyOf(x, "2");
        due("one without a variable", x.without(3), 1);
        x.clear();
        x.tidy();
        due("none", x.without(0), 0);
    }

    private static void promise28() {
        IdealBench x = new IdealBench(7, 2);
        due("of none", x.zeros(), 49);
        kept(x, "x2-y");
        kept(x, "xy-1");
        x.enter(0);
        due("a curve, not tidy", x.zeros(), 7);
        x.enter(1);
        due("three", x.zeros(), 3);
        int[][] sizes = {{2, 4, 16}, {7, 4, 2401}, {5, 4, 625}, {11, 4, NOT}, {13, 3, 2197}, {17, 3, NOT}, {47, 2, 2209},
            {53, 2, NOT}, {251, 1, 251}, {251, 4, NOT}, {251, 2, NOT}, {251, 3, NOT}, {43, 2, 1849}};
        for (int[] size : sizes) {
            due("P " + size[0] + ", N " + size[1], new IdealBench(size[0], size[1]).zeros(), size[2]);
        }
        IdealBench y = new IdealBench(251, 1);
        kept(y, "x2-1");
        y.enter(0);
        due("two", y.zeros(), 2);
        IdealBench z = new IdealBench(3, 4);
        kept(z, "x+y+z+w");
        kept(z, "w-2");
        z.enter(0);
        z.enter(1);
        due("nine", z.zeros(), 9);
        kept(z, "1");
        z.enter(2);
        due("none", z.zeros(), 0);
    }

    private static void promise29() {
        IdealBench x = new IdealBench(11, 2);
        due("P", x.count(0), 11);
        due("N", x.count(1), 2);
        for (int what : new int[] {-1, 12, Integer.MAX_VALUE, Integer.MIN_VALUE}) {
            due("count " + what, x.count(what), BAD);
        }
        kept(x, "x2-y");
        kept(x, "xy-1");
        kept(x, "");
        due("shelf", x.count(10), 3);
        x.drop(2);
        due("shelf", x.count(10), 2);
        x.rules(1);
        x.enter(0);
        x.enter(1);
        due("basis", x.count(2), 2);
        due("pairs", x.count(3), 1);
        // (0, 1) leaves y2 - x, (0, 2) is coprime, (1, 2) leaves nothing
        due("work", x.work(200), 3);
        due("basis", x.count(2), 3);
        due("pairs", x.count(3), 0);
        due("coprime", x.count(4), 1);
        due("chain", x.count(5), 0);
        due("something", x.count(6), 1);
        due("nothing", x.count(7), 1);
        due("reductions", x.count(8), 1);
        due("tidy", x.count(9), 0);
        due("the latest", x.count(11), 1);
        x.tidy();
        due("tidy", x.count(9), 1);
        due("the latest", x.count(11), 0);
        x.member(0);
        due("the latest", x.count(11), 1);
        due("reductions", x.count(8), 2);
        x.work(0);
        x.left(77);
        x.member(77);
        due("BAD changes nothing", x.count(11), 1);
        x.work(1);
        due("none waits", x.count(11), 0);
        x.left(0);
        x.enter(0);
        x.member(0);
        x.tidy();
        due("NOT changes nothing", x.count(11), 1);
        x.work(200);
        due("the latest pair was coprime or gave nothing", x.count(3), 0);
        int coprime = x.count(4);
        x.clear();
        due("since the beginning", x.count(4), coprime);
        due("basis", x.count(2), 0);
    }

    private static void promise30() {
        IdealBench x = new IdealBench(7, 2);
        due("new", x.digest(), 17 * 31);
        draft(x, "3xy2+5");
        long h = 17;
        for (int next : new int[] {2, 3, 1, 2, 5, 0, 0}) {
            h = 31 * h + next;
        }
        due("draft", x.digest(), h);
        x.keep();
        x.keep();
        x.drop(0);
        draft(x, "x");
        h = 17;
        for (int next : new int[] {1, 1, 1, 0, 1, 0}) {
            h = 31 * h + next;
        }
        due("nought at place 1", x.digest(), h);
        draft(x, "3y");
        x.enter(-1);
        h = 17;
        for (int next : new int[] {2, 1, 1, 0, 3, 0, 1, 1, 0, 2, 1, 1, 0, 3, 0, 1}) {
            h = 31 * h + next;
        }
        due("basis", x.digest(), h);
        for (int pairs = 1; pairs < 9; pairs++) {
            IdealBench y = new IdealBench(7, 4);
            kept(y, "3x2y+z+2w3+4x30w30+5yzw+6");
            kept(y, "x2w+3z");
            kept(y, "xy2+w");
            for (int i = 0; i < 3; i++) {
                y.enter(i);
            }
            draft(y, "w+5");
            y.work(pairs);
            due("much", y.digest(), digestOf(y));
        }
    }

    private static void constants() {
        due("NONE", IdealBench.NONE, NONE);
        due("BAD", IdealBench.BAD, BAD);
        due("NOT", IdealBench.NOT, NOT);
        due("FULL", IdealBench.FULL, FULL);
        due("GREAT", IdealBench.GREAT, GREAT);
        due("LONG", IdealBench.LONG, LONG);
        due("SPENT", IdealBench.SPENT, SPENT);
    }

    public static void main(String[] args) {
        Runnable[] promises = {
            PromisesTest::constants, PromisesTest::promise1, PromisesTest::promise2, PromisesTest::promise3,
            PromisesTest::promise4, PromisesTest::promise5, PromisesTest::promise6, PromisesTest::promise7,
            PromisesTest::promise8, PromisesTest::promise9, PromisesTest::promise10, PromisesTest::promise11,
            PromisesTest::promise12, PromisesTest::promise13, PromisesTest::promise14, PromisesTest::promise15,
            PromisesTest::promise16, PromisesTest::promise17, PromisesTest::promise18, PromisesTest::promise19,
            PromisesTest::promise20, PromisesTest::promise21, PromisesTest::promise22, PromisesTest::promise23,
            PromisesTest::promise24, PromisesTest::promise25, PromisesTest::promise26, PromisesTest::promise27,
            PromisesTest::promise28, PromisesTest::promise29, PromisesTest::promise30
        };
        for (int promise = 0; promise < promises.length; promise++) {
            about = "promise " + promise;
            promises[promise].run();
        }
        System.out.println(wrong == 0 ? "all promises hold" : wrong + " answers are not as due");
        if (wrong != 0) {
            System.exit(1);
        }
    }
}
