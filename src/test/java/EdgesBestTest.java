/** Promises 20 to 26 at their edges: what is best. */
public final class EdgesBestTest extends Edges {
    /** TOTALS 7 3 1 5. */
    private static final String TWO = "t10;v2;v2;u0,0,3;u0,1,1;b0,1,4;";

    public static void main(String[] args) {
        run(EdgesBestTest.class);
    }

    /** A NAME alone whose VALUES have these SINGLE costs, so that its TOTALS are the same. */
    private static SoftCosts costing(int top, int... costs) {
        StringBuilder s = new StringBuilder("t").append(top).append(";v").append(costs.length).append(';');
        for (int a = 0; a < costs.length; a++) {
            s.append("u0,").append(a).append(',').append(costs[a]).append(';');
        }
        return laid(s.toString());
    }

    // ---- 20 best

    @Says({"BEST: of all CHOICES of a TOTAL below TOP one of the least", "NONE: none is below TOP."})
    static void promise20_belowTopAlone() {
        SoftCosts x = costing(5, 5, 4);
        due("one below TOP", x.best(-1), 4);
        due("how many", x.best(-2), 1);
        due("its VALUE", x.best(0), 1);
        SoftCosts y = costing(5, 5, 5);
        due("TOP", y.best(-1), NONE);
        due("how many of TOP", y.best(-2), NONE);
        due("its VALUE", y.best(0), NONE);
        due("the least that can be", costing(1, 1, 0).best(-1), 0);
    }

    @Says("NONE: none is below TOP.")
    static void promise20_noneByPairsOrByTheConstant() {
        due("by PAIRS", laid("t2;v2;v2;b0,1,2;c0,0,1,2;c0,1,0,2;").best(-1), NONE);
        due("by SUMS", laid("t2;v2;v2;u0,0,1;u0,1,1;u1,0,1;u1,1,1;").best(-1), NONE);
        SoftCosts x = laid("t3;v2;v2;u0,0,3;u0,1,3;");
        x.raise(0, 3);
        due("by the CONSTANT", x.best(-1), NONE);
    }

    @Says("of several the first (by the VALUE of NAME 0, then of 1, ..).")
    static void promise20_ofSeveralTheFirst() {
        SoftCosts x = laid("v2;v2;b0,1,1;");
        due("how many", x.best(-2), 2);
        due("NAME 0", x.best(0), 0);
        due("NAME 1", x.best(1), 1);
        SoftCosts y = laid("v2;v3;v3;u0,0,1;b1,2,4;");
        due("how many", y.best(-2), 6);
        due("NAME 0", y.best(0), 1);
        due("NAME 1", y.best(1), 0);
        due("NAME 2", y.best(2), 1);
    }

    @Says("BEST: its TOTAL (i = -1), how many CHOICES there are of that TOTAL (i = -2), its VALUE of NAME i.")
    static void promise20_totalNumberAndValues() {
        SoftCosts x = laid(TWO);
        due("best(-1)", x.best(-1), 1);
        due("best(-2)", x.best(-2), 1);
        due("best(0)", x.best(0), 1);
        due("best(1)", x.best(1), 0);
        due("all of six NAMES", laid("t1;v4;v4;v4;v4;v4;v4;").best(-2), 4096);
        SoftCosts y = laid("v4;v4;v4;v4;v4;v4;u5,0,1;u5,1,1;u5,2,1;");
        due("how many", y.best(-2), 1024);
        due("the last NAME's last VALUE", y.best(5), 3);
    }

    @Says({"BAD;", "Of several the first in this order, whatever the order at a call;"})
    static void promise20_namesThatThereAreNot() {
        for (int i : new int[] {-3, -4, 2, 3, 6, FAR, DEEP}) {
            refused("best(" + i + ")", x -> x.best(i), BAD);
            due("best(" + i + ") where there is none", hopeless().best(i), BAD);
        }
        due("NAME 5 of six", laid("v2;v2;v2;v2;v2;v2;").best(5), 0);
        due("NAME 6 of six", laid("v2;v2;v2;v2;v2;v2;").best(6), BAD);
    }

    @Says("BEST: its TOTAL (i = -1), how many CHOICES there are of that TOTAL (i = -2), its VALUE of NAME i.")
    static void promise20_theChoiceToldStays() {
        SoftCosts x = busy();
        int best = x.best(-1);
        leaves(Edges::busy, "best(-1)", y -> y.best(-1), best);
        leaves(() -> laid(TWO), "best(0)", y -> y.best(0), 1);
    }

    @Says("NONE: none is below TOP.")
    static void promise20_whatWasAskedAheadDoesNotCount() {
        SoftCosts x = laid(TWO);
        due("best", x.best(-1), 1);
        due("best again", x.best(-2), 1);
        x.grow(0, 0, 99);
        x.grow(0, 1, 99);
        due("best of none", x.best(-1), NONE);
        due("how many", x.best(-2), NONE);
        due("its VALUE", x.best(0), NONE);
        x.undo();
        due("best behind undo", x.best(-1), 1);
        due("its VALUE behind undo", x.best(0), 1);
    }

    // ---- 21 next

    @Says("The least TOTAL of CHOICES that is above that of BEST and below TOP (what = 0)")
    static void promise21_aboveBestAndBelowTop() {
        due("one above", costing(9, 3, 4, 9).next(0), 4);
        due("one below TOP", costing(9, 3, 8, 9).next(0), 8);
        due("those of BEST are not above it", costing(9, 3, 3, 3, 8).next(0), 8);
        int[][] orders = {{3, 4, 5}, {3, 5, 4}, {4, 3, 5}, {4, 5, 3}, {5, 3, 4}, {5, 4, 3}};
        for (int[] order : orders) {
            due("whatever the order", costing(9, order).next(0), 4);
        }
        due("the second comes twice", costing(9, 4, 4, 3).next(0), 4);
    }

    @Says({"NONE (0): there is none.", "NONE: there is none."})
    static void promise21_noneAboveBest() {
        due("the other one is TOP", costing(9, 3, 9).next(0), NONE);
        due("all are alike", costing(9, 3, 3, 3, 3).next(0), NONE);
        due("all are TOP", costing(9, 9, 9).next(0), NONE);
        due("all are 0", laid("v2;v2;").next(0), NONE);
    }

    @Says("how many CHOICES are below TOP (1).")
    static void promise21_howManyAreBelowTop() {
        due("one below TOP counts, TOP not", costing(9, 3, 8, 9).next(1), 2);
        due("one", costing(9, 3, 9).next(1), 1);
        due("none: 0, not NONE", hopeless().next(1), 0);
        SoftCosts x = laid(TWO);
        due("asked once", x.next(1), 4);
        due("asked twice", x.next(1), 4);
        x.grow(0, 0, 99);
        due("behind grow", x.next(1), 2);
        due("the next behind grow", x.next(0), 5);
        x.grow(1, 1, 99);
        due("no next", x.next(0), NONE);
        due("all of six NAMES", laid("t1;v4;v4;v4;v4;v4;v4;").next(1), 4096);
    }

    @Says("BAD;")
    static void promise21_questionsThatThereAreNot() {
        for (int what : new int[] {-1, 2, FAR, DEEP}) {
            refused("next(" + what + ")", x -> x.next(what), BAD);
            due("next(" + what + ") where there is none", hopeless().next(what), BAD);
        }
        leaves(() -> laid(TWO), "next(0)", x -> x.next(0), 3);
        leaves(() -> laid(TWO), "next(1)", x -> x.next(1), 4);
    }

    // ---- 22 backbone

    @Says({"BACKBONE.", "(4 bits of each NAME: VALUE a of NAME i is bit 4 i and a)."})
    static void promise22_eachBit() {
        for (int i = 0; i < 6; i++) {
            for (int a = 0; a < 4; a++) {
                SoftCosts x = laid("v4;v4;v4;v4;v4;v4;");
                for (int other = 0; other < 4; other++) {
                    if (other != a) {
                        x.grow(i, other, 1);
                    }
                }
                due("VALUE " + a + " of NAME " + i, x.backbone(), 1 << (4 * i + a));
            }
        }
    }

    @Says("BACKBONE: VALUES that all CHOICES of that TOTAL have")
    static void promise22_choicesOfThatTotalAlone() {
        due("one CHOICE", laid(TWO).backbone(), 2 + 16);
        due("others are below TOP, too", costing(9, 3, 4, 5).backbone(), 1);
        due("two CHOICES with one VALUE in common", laid("v2;v2;u0,0,1;").backbone(), 2);
        due("two of a NAME, none in common: 0, not NONE", laid("v2;v2;b0,1,1;").backbone(), 0);
        due("the last one best", costing(9, 5, 4, 3).backbone(), 4);
    }

    @Says("NONE: there is no BEST one.")
    static void promise22_noBest() {
        due("hopeless", hopeless().backbone(), NONE);
        due("all are TOP", costing(1, 1, 1).backbone(), NONE);
        SoftCosts x = costing(9, 3, 4);
        due("one", x.backbone(), 1);
        x.grow(0, 0, 9);
        due("another one", x.backbone(), 2);
        x.grow(0, 1, 9);
        due("no more", x.backbone(), NONE);
        leaves(Edges::hopeless, "backbone", SoftCosts::backbone, NONE);
        leaves(() -> laid(TWO), "backbone", SoftCosts::backbone, 18);
    }

    // ---- 23 with

    @Says({"WITH a VALUE: the least TOTAL of CHOICES that have it.", "WITH a VALUE."})
    static void promise23_choicesThatHaveIt() {
        SoftCosts x = laid(TWO);
        due("with(0,0)", x.with(0, 0), 3);
        due("with(0,1)", x.with(0, 1), 1);
        due("with(1,0)", x.with(1, 0), 1);
        due("with(1,1)", x.with(1, 1), 3);
        due("the last of six NAMES", laid("v4;v4;v4;v4;v4;v4;u5,3,7;").with(5, 3), 7);
    }

    @Says("NONE: none is below TOP.")
    static void promise23_noneWithItIsBelowTop() {
        due("one below TOP", costing(5, 4, 0).with(0, 0), 4);
        due("TOP", costing(5, 5, 0).with(0, 0), NONE);
        due("others are below TOP", costing(5, 5, 0).with(0, 1), 0);
        SoftCosts x = laid("t5;v2;v2;b0,1,5;c0,0,1,5;");
        due("by PAIRS", x.with(0, 0), NONE);
        due("of the other NAME", x.with(1, 1), NONE);
        due("with one that may be", x.with(1, 0), 0);
        due("of none behind one", x.with(0, 0), NONE);
        due("where there is none at all", hopeless().with(1, 1), NONE);
    }

    @Says({"BAD;", "Of several the first in this order, whatever the order at a call;"})
    static void promise23_valuesThatThereAreNot() {
        int[][] none = {{2, 0}, {-1, 0}, {6, 0}, {0, 2}, {0, -1}, {1, 4}, {FAR, 0}, {0, FAR}, {DEEP, DEEP}};
        for (int[] p : none) {
            refused("with(" + p[0] + "," + p[1] + ")", x -> x.with(p[0], p[1]), BAD);
            due("with(" + p[0] + "," + p[1] + ") where there is none", hopeless().with(p[0], p[1]), BAD);
        }
        leaves(() -> laid(TWO), "with(0,0)", x -> x.with(0, 0), 3);
    }

    // ---- 24 without

    @Says({"WITHOUT a TABLE: the least TOTAL of CHOICES, were all its costs 0.", "WITHOUT a TABLE."})
    static void promise24_wereItsCosts0() {
        SoftCosts x = laid("t9;v2;v2;v2;b0,1,9;c0,0,1,4;c0,1,0,9;b1,2,3;c1,1,0,2;c1,0,1,5;");
        due("with all", x.best(-1), 6);
        due("without(0)", x.without(0), 2);
        due("without(1)", x.without(1), 4);
        due("with all again", x.best(-1), 6);
        due("SINGLE costs stay", laid("v2;v2;u0,0,2;u0,1,3;b0,1,9;").without(0), 2);
    }

    @Says("NONE: none is below TOP.")
    static void promise24_noneWithoutItIsBelowTop() {
        due("a TABLE of TOPS", laid("t2;v2;v2;b0,1,2;c0,0,1,2;c0,1,0,2;").without(0), 0);
        due("one below TOP", laid("t5;v2;v2;u0,0,4;u0,1,4;b0,1,5;").without(0), 4);
        due("TOP", laid("t5;v2;v2;u0,0,5;u0,1,5;b0,1,5;").without(0), NONE);
        SoftCosts x = laid("t2;v2;v2;v2;b0,1,2;c0,0,1,2;c0,1,0,2;b1,2,2;c1,0,1,2;c1,1,0,2;");
        due("by another TABLE", x.without(0), NONE);
        SoftCosts y = laid("t2;v2;v2;v2;b0,1,2;c0,0,1,2;c0,1,0,2;b1,2,0;");
        due("one", y.without(0), 0);
        due("none behind one", y.without(1), NONE);
        due("where there is none at all", hopeless().without(0), NONE);
    }

    @Says({"BAD;", "Of several the first in this order, whatever the order at a call;"})
    static void promise24_tablesThatThereAreNot() {
        for (int t : new int[] {-1, 1, 8, 9, FAR, DEEP}) {
            refused("without(" + t + ")", x -> x.without(t), BAD);
            due("without(" + t + ") where there is none", hopeless().without(t), BAD);
        }
        due("no TABLE at all", laid("v2;v2;").without(0), BAD);
        leaves(() -> laid(TWO), "without(0)", x -> x.without(0), 1);
    }

    // ---- 25 tries

    @Says("TRIES: how many partial CHOICES there were (VALUES of NAME 0 alone, too).")
    static void promise25_valuesOfName0Alone() {
        due("one NAME", laid("v3;").tries(), 3);
        due("none goes on", laid("t3;v4;v2;u0,0,3;u0,1,3;u0,2,3;u0,3,3;").tries(), 4);
        SoftCosts x = laid("t3;v4;v2;v2;u1,0,3;u1,1,3;");
        x.raise(1, 3);
        due("the CONSTANT is TOP", x.tries(), 4);
    }

    @Says({"it goes on to the next NAME (or, if there is none, its TOTAL is the best so far), if its LOW is below the best so far",
        "(TOP at first)."})
    static void promise25_lowIsBelowTop() {
        due("LOW is TOP", laid("t3;v2;v2;u0,0,3;").tries(), 4);
        due("LOW is one below TOP", laid("t3;v2;v2;u0,0,2;").tries(), 6);
        due("LOW is beyond TOP", laid("t3;v2;v2;u0,0,2;u1,0,2;u1,1,2;").tries(), 4);
    }

    @Says("(or, if there is none, its TOTAL is the best so far), if its LOW is below the best so far")
    static void promise25_lowIsBelowTheBestSoFar() {
        due("LOW is the best so far", laid("v2;v2;u0,0,1;u0,1,1;").tries(), 4);
        due("LOW is one below it", laid("v2;v2;u0,0,1;").tries(), 6);
        due("LOW is above it", laid("v2;v2;u0,1,1;").tries(), 4);
        // 3, then 2, then 2 again, which is not below it
        due("the best so far falls", laid("v3;v2;u0,0,3;u0,1,2;u0,2,2;").tries(), 7);
    }

    @Says({"TRIES: the search goes by NAMES, 0 first, and VALUES, 0 first;", "a partial CHOICE (VALUES of NAMES 0 to k) is a TRY;"})
    static void promise25_namesAndValuesTheFirstFirst() {
        due("NAME 0 first", laid("v2;v4;").tries(), 6);
        due("the other way", laid("v4;v2;").tries(), 6);
        due("VALUE 0 first", laid("v2;v3;u0,0,1;").tries(), 8);
        due("VALUE 1 is better", laid("v2;v3;u0,1,1;").tries(), 5);
        due("six NAMES", laid("t99;v4;v4;v4;v4;v4;v4;").tries(), 24);
    }

    @Says({"LOW of it: the SUM of the CONSTANT, SINGLE costs of its VALUES, costs of PAIRS of two of them,",
        "and for each other NAME the least, over its VALUES, of the SUM of the SINGLE cost and the costs of PAIRS with VALUES of the partial CHOICE."})
    static void promise25_whatLowCounts() {
        due("PAIRS of the partial CHOICE with other NAMES", laid("t5;v2;v2;v2;b0,1,5;c0,0,1,5;").tries(), 6);
        due("no PAIRS of two other NAMES", laid("t5;v2;v2;v2;b1,2,5;c0,0,1,5;c0,1,0,5;").tries(), 6);
        due("SINGLE costs of other NAMES", laid("t5;v2;v2;v2;u2,0,5;u2,1,6;").tries(), 2);
        due("the SUM of several NAMES", laid("t4;v2;v2;v2;u0,0,1;u0,1,1;u1,0,1;u1,1,1;u2,0,2;u2,1,2;").tries(), 2);
        due("the least of the VALUES' SUMS", laid("t5;v2;v2;u1,0,3;u1,1,2;b0,1,2;c0,0,1,3;").tries(), 4);
        SoftCosts x = laid("t3;v2;v2;u0,0,2;u0,1,3;u1,0,1;u1,1,1;");
        due("without CONSTANT", x.tries(), 2);
        x.raise(0, 2);
        due("with the CONSTANT", x.tries(), 2);
    }

    @Says("TRIES: how many partial CHOICES there were (VALUES of NAME 0 alone, too).")
    static void promise25_triesChangeNothing() {
        leaves(() -> laid(TWO), "tries", SoftCosts::tries, 6);
        SoftCosts x = laid(TWO);
        x.tries();
        due("tries again", x.tries(), 6);
    }

    // ---- 26 count

    @Says("How many: 0 NAMES, 1 TABLES, 2 TOP, 3 the CONSTANT,")
    static void promise26_whatIsLaid() {
        SoftCosts x = laid("t1;v2;");
        due("the fewest NAMES", x.count(0), 1);
        due("the fewest TABLES", x.count(1), 0);
        due("the lowest TOP", x.count(2), 1);
        due("the CONSTANT as laid", x.count(3), 0);
        SoftCosts y = laid("t99;v2;v2;v2;v2;v2;v2;b0,1,1;b0,2,1;b0,3,1;b0,4,1;b0,5,1;b1,2,1;b1,3,1;b1,4,1;b1,5,1;u5,0,99;u5,1,99;");
        due("the most NAMES", y.count(0), 6);
        due("the most TABLES", y.count(1), 9);
        due("the highest TOP", y.count(2), 99);
        y.raise(5, 99);
        due("the highest CONSTANT", y.count(3), 99);
        due("TOP stays", y.count(2), 99);
    }

    @Says("4 VALUES that are SHUT,")
    static void promise26_shut() {
        SoftCosts x = laid("t5;v2;v4;u0,0,4;u0,1,5;u1,3,9;");
        due("of all NAMES", x.count(4), 2);
        x.grow(0, 0, 1);
        due("one more", x.count(4), 3);
        x.raise(0, 5);
        due("all", x.count(4), 6);
        due("none", laid("t5;v2;v2;u0,0,4;").count(4), 0);
        SoftCosts y = laid("v4;v4;v4;");
        y.wipe();
        told(y, "t3;v2;u0,0,3;u0,1,3;").lay();
        y.raise(0, 3);
        due("of NAMES that there are", y.count(4), 2);
    }

    @Says("5 changes that can be UNDONE,")
    static void promise26_changes() {
        SoftCosts x = laid("v2;");
        for (int k = 0; k < 9; k++) {
            due("changes", x.count(5), Math.min(k, 6));
            x.grow(0, 0, 1);
        }
        x.undo();
        due("behind undo", x.count(5), 5);
        x.lay();
        due("behind lay", x.count(5), 0);
    }

    @Says("6 letters of THE TEXT.")
    static void promise26_letters() {
        SoftCosts x = new SoftCosts();
        due("none", x.count(6), 0);
        for (int k = 1; k <= 202; k++) {
            x.write(' ');
            due("letters", x.count(6), Math.min(k, 200));
        }
        x.wipe();
        due("behind wipe", x.count(6), 0);
    }

    @Says("BAD.")
    static void promise26_questionsThatThereAreNot() {
        for (int what : new int[] {-1, 7, 8, FAR, DEEP}) {
            refused("count(" + what + ")", x -> x.count(what), BAD);
        }
    }
}
