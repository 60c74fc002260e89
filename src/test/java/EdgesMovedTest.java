/** Promises 13 to 15 and 19 at their edges: costs that are moved, and moved back. */
public final class EdgesMovedTest extends Edges {
    /** PAIRS 4 3 2 and 5 10 6, the 10 being TOP. */
    private static final String TABLE = "t10;v2;v3;u0,0,1;b0,1,4;c0,0,1,3;c0,0,2,2;c0,1,0,5;c0,1,1,10;c0,1,2,6;";

    /** SINGLE costs 10 4 and 0 0 7, the 10 being TOP; PAIRS 4 0 0 and 8 4 0. */
    private static final String VALUES = "t10;v2;v3;u0,0,10;u0,1,4;u1,2,7;b0,1,4;c0,1,0,8;";

    /** SINGLE costs 4 6 10, the last being TOP. */
    private static final String NAME = "t10;v3;u0,0,4;u0,1,6;u0,2,10;";

    /** All costs but those of one VALUE and its PAIRS are TOP. */
    private static final String TOPS = "t5;v2;v2;u0,0,5;u0,1,5;u1,0,5;b0,1,0;c0,0,0,5;c0,0,1,5;";

    public static void main(String[] args) {
        run(EdgesMovedTest.class);
    }

    /** The picture without what is counted. */
    private static String costs(SoftCosts x) {
        String all = picture(x);
        return all.substring(all.indexOf(';'));
    }

    // ---- 13 project

    @Says({"if all costs of PAIRS with that VALUE are x or more", "NO: some cost is less than x."})
    static void promise13_byTheLeastNotByMore() {
        leaves(() -> laid(TABLE), "by one more than the least", x -> x.project(0, 0, 0, 3), NO);
        SoftCosts x = laid(TABLE);
        due("by the least", x.project(0, 0, 0, 2), 3);
        pairs(x, 0, "2 1 0/5 10 6");
        leaves(() -> {
            SoftCosts y = laid(TABLE);
            y.project(0, 0, 0, 2);
            return y;
        }, "of nothing", y -> y.project(0, 0, 0, 1), NO);
    }

    @Says({"if all costs of PAIRS with that VALUE are x or more", "NO: some cost is less than x."})
    static void promise13_oneCostOfAnyPairIsEnoughForNo() {
        for (int b = 0; b < 3; b++) {
            String text = "t10;v2;v3;b0,1,5;c0,0,1,5;c0,0,2,5;c0,0," + b + ",4;";
            leaves(() -> laid(text), "project of " + text, x -> x.project(0, 0, 0, 5), NO);
        }
        due("all are enough", laid("t10;v2;v3;b0,1,5;c0,0,1,5;c0,0,2,5;").project(0, 0, 0, 5), 5);
        due("the other VALUE's costs are free", laid("t10;v2;v2;b0,1,0;c0,1,0,3;c0,1,1,3;").project(0, 0, 1, 3), 3);
    }

    @Says({"each of them is LESS x", "LESS: cost c LESS x is c, if c is TOP, else c less x."})
    static void promise13_topStaysTop() {
        SoftCosts x = laid(TABLE);
        due("a row with TOP", x.project(0, 0, 1, 5), 5);
        pairs(x, 0, "4 3 2/0 10 1");
        SoftCosts y = laid("t10;v2;v2;b0,1,9;c0,0,1,10;");
        due("one below TOP", y.project(0, 0, 0, 9), 9);
        pairs(y, 0, "0 10/0 9");
    }

    @Says({"its SINGLE cost the SUM of it and x.", "SUM of costs: all together, but TOP at most."})
    static void promise13_theSingleIsTopAtMost() {
        SoftCosts x = laid("t10;v4;v2;u0,0,6;u0,1,7;u0,2,8;u0,3,10;b0,1,3;c0,0,1,3;c0,1,0,3;c0,2,0,3;c0,2,1,3;c0,3,0,3;c0,3,1,3;");
        due("one below TOP", x.project(0, 0, 0, 3), 9);
        due("TOP", x.project(0, 0, 1, 3), 10);
        due("beyond TOP", x.project(0, 0, 2, 3), 10);
        due("at TOP", x.project(0, 0, 3, 3), 10);
        singles(x, 0, 9, 10, 10, 10);
        due("the TABLE's greatest", x.table(0, 3), 0);
    }

    @Says({"PROJECTED by x from a TABLE to VALUE a of its lower NAME (side = 0), its other one (1): the SINGLE cost then.",
        "PROJECTED from a TABLE to a VALUE of one of its NAMES:"})
    static void promise13_toTheOtherName() {
        SoftCosts x = laid(TABLE);
        due("to VALUE 1 of NAME 1", x.project(0, 1, 1, 3), 3);
        pairs(x, 0, "4 0 2/5 10 6");
        due("to VALUE 2 of NAME 1, too much", x.project(0, 1, 2, 3), NO);
        due("to VALUE 2 of NAME 1", x.project(0, 1, 2, 2), 2);
        pairs(x, 0, "4 0 0/5 10 4");
        singles(x, 0, 1, 0);
        singles(x, 1, 0, 3, 2);
    }

    @Says("PROJECTED from a TABLE to a VALUE of one of its NAMES:")
    static void promise13_fromThatTableAlone() {
        SoftCosts x = laid("v2;v2;v2;b1,2,3;c0,0,1,3;b0,1,4;c1,1,0,4;b0,2,5;");
        due("from TABLE 0 to NAME 1", x.project(0, 0, 0, 2), 2);
        due("from TABLE 1 to NAME 1", x.project(1, 1, 0, 4), 6);
        pairs(x, 0, "1 1/0 3");
        pairs(x, 1, "0 0/0 4");
        pairs(x, 2, "5 0/0 5");
        singles(x, 1, 6, 0);
        due("CONSTANT", x.count(3), 0);
    }

    @Says("PROJECTED from a TABLE to a VALUE of one of its NAMES:")
    static void promise13_tablesOfFourValues() {
        SoftCosts x = fours();
        due("from the first row", x.project(1, 0, 0, 3), 3);
        due("from the last row", x.project(1, 0, 3, 3), 3);
        due("from the first column", x.project(1, 1, 1, 2), NO);
        due("from another TABLE's last column", x.project(0, 1, 3, 2), 2);
        pairs(x, 0, "3 2 2 0/2 3 2 0/2 2 3 0/2 2 2 1");
        pairs(x, 1, "1 0 0 0/3 4 3 3/3 3 4 3/0 0 0 1");
        pairs(x, 2, "5 4 4 4/4 5 4 4/4 4 5 4/4 4 4 5");
        singles(x, 0, 3, 0, 0, 3);
        singles(x, 1, 0, 0, 0, 2);
        singles(x, 2, 0, 0, 0, 0);
    }

    /** Three TABLES of four VALUES each, all PAIRS costing 2, 3 and 4, those of like VALUES one more. */
    private static SoftCosts fours() {
        SoftCosts x = laid("t20;v4;v4;v4;b0,1,1;b0,2,1;b1,2,1;");
        for (int t = 0; t < 3; t++) {
            for (int a = 0; a < 4; a++) {
                x.grow(x.table(t, 0), a, t + 2);
                due("extend", x.extend(t, 0, a, t + 2), 0);
            }
        }
        return x;
    }

    @Says({"Costs are moved by x (1 to 99)", "BAD;"})
    static void promise13_by1To99() {
        due("by 1", laid(TABLE).project(0, 0, 0, 1), 2);
        due("by 99", laid("t99;v2;v2;b0,1,99;c0,0,1,99;").project(0, 0, 0, 99), 99);
        refused("by 99, TOP being 10", x -> x.project(0, 0, 0, 99), NO);
        for (int step : new int[] {0, -1, 100, FAR, DEEP}) {
            refused("by " + step, x -> x.project(0, 0, 0, step), BAD);
        }
    }

    @Says("NO: some cost is less than x.")
    static void promise13_aCostOfTopIsLessThanMore() {
        leaves(() -> laid(TOPS), "by more than TOP", x -> x.project(0, 0, 0, 6), NO);
        SoftCosts x = laid(TOPS);
        due("by TOP", x.project(0, 0, 0, 5), 5);
        pairs(x, 0, "5 5/0 0");
    }

    @Says("BAD;")
    static void promise13_placesThatThereAreNot() {
        for (int t : new int[] {-1, 1, 9, FAR, DEEP}) {
            refused("TABLE " + t, x -> x.project(t, 0, 0, 1), BAD);
        }
        for (int side : new int[] {-1, 2, FAR, DEEP}) {
            refused("side " + side, x -> x.project(0, side, 0, 1), BAD);
        }
        for (int a : new int[] {-1, 2, 3, FAR, DEEP}) {
            refused("VALUE " + a + " of the lower NAME", x -> x.project(0, 0, a, 1), BAD);
        }
        for (int a : new int[] {-1, 3, 4, FAR, DEEP}) {
            refused("VALUE " + a + " of the other NAME", x -> x.project(0, 1, a, 1), BAD);
        }
        due("where there is no TABLE", laid("v2;v2;").project(0, 0, 0, 1), BAD);
        due("VALUE 2 of the other NAME is one", laid(TABLE).project(0, 1, 2, 3), NO);
    }

    @Says("so that no TOTAL becomes another one:")
    static void promise13_noTotalBecomesAnother() {
        SoftCosts x = laid(TABLE);
        String ahead = totals(x);
        like("TOTALS", ahead, "5 4 3 5 10 6");
        x.project(0, 0, 0, 2);
        x.project(0, 0, 1, 5);
        x.project(0, 1, 2, 1);
        like("TOTALS behind it", totals(x), ahead);
    }

    // ---- 14 extend

    @Says({"if its SINGLE cost is x or more", "NO: it is less than x."})
    static void promise14_byItAllNotByMore() {
        leaves(() -> laid(VALUES), "by one more", x -> x.extend(0, 0, 1, 5), NO);
        leaves(() -> laid(VALUES), "of nothing", x -> x.extend(0, 1, 0, 1), NO);
        SoftCosts x = laid(VALUES);
        due("by all", x.extend(0, 0, 1, 4), 0);
        pairs(x, 0, "4 0 0/10 8 4");
        SoftCosts y = laid(VALUES);
        due("by less", y.extend(0, 0, 1, 3), 1);
        pairs(y, 0, "4 0 0/10 7 3");
    }

    @Says({"it is LESS x", "LESS: cost c LESS x is c, if c is TOP, else c less x."})
    static void promise14_topStaysTop() {
        SoftCosts x = laid(VALUES);
        due("from TOP", x.extend(0, 0, 0, 3), 10);
        pairs(x, 0, "7 3 3/8 4 0");
        due("from TOP by TOP", x.extend(0, 0, 0, 10), 10);
        pairs(x, 0, "10 10 10/8 4 0");
        due("from one below TOP", laid("t10;v2;v2;u0,0,9;b0,1,0;").extend(0, 0, 0, 9), 0);
    }

    @Says({"each cost of a PAIR with it the SUM of it and x.", "SUM of costs: all together, but TOP at most."})
    static void promise14_pairsAreTopAtMost() {
        SoftCosts x = laid("t10;v2;v4;u0,0,3;b0,1,6;c0,0,1,7;c0,0,2,8;c0,0,3,10;");
        due("extend", x.extend(0, 0, 0, 3), 0);
        pairs(x, 0, "9 10 10 10/0 6 0 0");
    }

    @Says({"EXTENDED by x from VALUE a of the lower NAME (side = 0), the other one (1) of a TABLE to that: the SINGLE cost then.",
        "EXTENDED from a VALUE of one of its NAMES to a TABLE:"})
    static void promise14_fromTheOtherName() {
        SoftCosts x = laid(VALUES);
        due("from VALUE 2 of NAME 1", x.extend(0, 1, 2, 7), 0);
        pairs(x, 0, "4 0 7/8 4 7");
        singles(x, 0, 10, 4);
        singles(x, 1, 0, 0, 0);
    }

    @Says("EXTENDED from a VALUE of one of its NAMES to a TABLE:")
    static void promise14_toThatTableAlone() {
        SoftCosts x = laid("v2;v2;v2;u1,0,9;b1,2,0;b0,1,0;");
        due("to TABLE 0", x.extend(0, 0, 0, 2), 7);
        due("to TABLE 1", x.extend(1, 1, 0, 3), 4);
        pairs(x, 0, "2 2/0 0");
        pairs(x, 1, "3 0/3 0");
        due("CONSTANT", x.count(3), 0);
    }

    @Says("EXTENDED from a VALUE of one of its NAMES to a TABLE:")
    static void promise14_tablesOfFourValues() {
        SoftCosts x = laid("t20;v4;v4;v4;u0,0,3;u0,1,5;u0,3,4;u2,0,2;u2,3,6;b0,1,1;b0,2,0;b1,2,1;");
        due("to the first row", x.extend(1, 0, 0, 3), 0);
        due("to the second row", x.extend(1, 0, 1, 5), 0);
        due("to the last row", x.extend(1, 0, 3, 4), 0);
        pairs(x, 1, "3 3 3 3/5 5 5 5/0 0 0 0/4 4 4 4");
        due("to the first column", x.extend(1, 1, 0, 2), 0);
        due("to the last column", x.extend(1, 1, 3, 6), 0);
        pairs(x, 0, "1 0 0 0/0 1 0 0/0 0 1 0/0 0 0 1");
        pairs(x, 1, "5 3 3 9/7 5 5 11/2 0 0 6/6 4 4 10");
        pairs(x, 2, "1 0 0 0/0 1 0 0/0 0 1 0/0 0 0 1");
        singles(x, 0, 0, 0, 0, 0);
        singles(x, 2, 0, 0, 0, 0);
    }

    @Says({"Costs are moved by x (1 to 99)", "BAD;"})
    static void promise14_by1To99() {
        due("by 1", laid(VALUES).extend(0, 1, 2, 1), 6);
        due("by 99", laid("t99;v2;v2;u0,0,99;b0,1,0;").extend(0, 0, 0, 99), 99);
        refused("by 99, TOP being 10", x -> x.extend(0, 0, 0, 99), NO);
        for (int step : new int[] {0, -1, 100, FAR, DEEP}) {
            refused("by " + step, x -> x.extend(0, 0, 1, step), BAD);
        }
    }

    @Says("NO: it is less than x.")
    static void promise14_aCostOfTopIsLessThanMore() {
        leaves(() -> laid(TOPS), "by more than TOP", x -> x.extend(0, 1, 0, 6), NO);
        SoftCosts x = laid(TOPS);
        due("by TOP", x.extend(0, 1, 0, 5), 5);
        pairs(x, 0, "5 5/5 0");
    }

    @Says("BAD;")
    static void promise14_placesThatThereAreNot() {
        for (int t : new int[] {-1, 1, 9, FAR, DEEP}) {
            refused("TABLE " + t, x -> x.extend(t, 0, 0, 1), BAD);
        }
        for (int side : new int[] {-1, 2, FAR, DEEP}) {
            refused("side " + side, x -> x.extend(0, side, 0, 1), BAD);
        }
        for (int a : new int[] {-1, 2, 3, FAR, DEEP}) {
            refused("VALUE " + a + " of the lower NAME", x -> x.extend(0, 0, a, 1), BAD);
        }
        for (int a : new int[] {-1, 3, 4, FAR, DEEP}) {
            refused("VALUE " + a + " of the other NAME", x -> x.extend(0, 1, a, 1), BAD);
        }
        due("where there is no TABLE", laid("v2;v2;u0,0,1;").extend(0, 0, 0, 1), BAD);
    }

    @Says("so that no TOTAL becomes another one:")
    static void promise14_noTotalBecomesAnother() {
        SoftCosts x = laid(VALUES);
        String ahead = totals(x);
        like("TOTALS", ahead, "10 10 10 10 8 10");
        x.extend(0, 0, 0, 3);
        x.extend(0, 0, 1, 2);
        x.extend(0, 1, 2, 7);
        like("TOTALS behind it", totals(x), ahead);
    }

    // ---- 15 raise

    @Says({"RAISED from a NAME: if SINGLE costs of all its VALUES are x or more", "NO: some cost is less than x."})
    static void promise15_byTheLeastNotByMore() {
        leaves(() -> laid(NAME), "by one more than the least", x -> x.raise(0, 5), NO);
        leaves(() -> laid("v2;u0,0,9;"), "of nothing", x -> x.raise(0, 1), NO);
        leaves(() -> laid("v4;u0,0,9;u0,1,9;u0,2,9;u0,3,8;"), "the last one is less", x -> x.raise(0, 9), NO);
        SoftCosts x = laid(NAME);
        due("by the least", x.raise(0, 4), 4);
        singles(x, 0, 0, 2, 10);
    }

    @Says({"each is LESS x", "LESS: cost c LESS x is c, if c is TOP, else c less x."})
    static void promise15_topStaysTop() {
        SoftCosts x = laid("t10;v3;u0,0,10;u0,1,9;u0,2,10;");
        due("raise", x.raise(0, 9), 9);
        singles(x, 0, 10, 0, 10);
        SoftCosts y = laid("t10;v2;u0,0,10;u0,1,10;");
        due("by TOP", y.raise(0, 10), 10);
        singles(y, 0, 10, 10);
    }

    @Says({"the CONSTANT the SUM of it and x.", "SUM of costs: all together, but TOP at most."})
    static void promise15_theConstantIsTopAtMost() {
        SoftCosts x = laid("t10;v2;v2;u0,0,6;u0,1,6;u1,0,6;u1,1,6;");
        due("the first", x.raise(0, 6), 6);
        due("one below TOP", x.raise(1, 3), 9);
        due("TOP", x.raise(1, 1), 10);
        due("beyond TOP", x.raise(1, 2), 10);
        due("CONSTANT", x.count(3), 10);
        singles(x, 1, 0, 0);
    }

    @Says({"Costs are moved by x (1 to 99)", "RAISED by x from a NAME: the CONSTANT then.", "BAD;"})
    static void promise15_by1To99() {
        due("by 1", laid(NAME).raise(0, 1), 1);
        due("by 99", laid("t99;v2;u0,0,99;u0,1,99;").raise(0, 99), 99);
        refused("by 99, TOP being 10", x -> x.raise(0, 99), NO);
        for (int step : new int[] {0, -1, 100, FAR, DEEP}) {
            refused("by " + step, x -> x.raise(0, step), BAD);
        }
    }

    @Says("NO: some cost is less than x.")
    static void promise15_aCostOfTopIsLessThanMore() {
        leaves(() -> laid(TOPS), "by more than TOP", x -> x.raise(0, 6), NO);
        due("by TOP", laid(TOPS).raise(0, 5), 5);
    }

    @Says("BAD;")
    static void promise15_namesThatThereAreNot() {
        for (int i : new int[] {-1, 2, 6, FAR, DEEP}) {
            refused("NAME " + i, x -> x.raise(i, 1), BAD);
        }
        due("NAME 5 of six", laid("v2;v2;v2;v2;v2;v2;u5,0,1;u5,1,1;").raise(5, 1), 1);
    }

    @Says("so that no TOTAL becomes another one:")
    static void promise15_noTotalBecomesAnother() {
        SoftCosts x = laid("t10;v3;v2;u0,0,4;u0,1,6;u0,2,10;u1,0,1;u1,1,5;");
        String ahead = totals(x);
        like("TOTALS", ahead, "5 9 7 10 10 10");
        x.raise(0, 4);
        x.raise(1, 1);
        like("TOTALS behind it", totals(x), ahead);
    }

    // ---- 19 undo

    @Says({"UNDONE: how many more can be.", "(the last 6 can be"})
    static void promise19_theLastSixCanBe() {
        SoftCosts x = laid("t99;v2;");
        for (int k = 1; k <= 7; k++) {
            x.grow(0, 0, 1);
            due("changes", x.count(5), Math.min(k, 6));
        }
        for (int more = 5; more >= 0; more--) {
            due("undo", x.undo(), more);
            due("the cost behind it", x.single(0, 0), more + 1);
        }
        due("the seventh", x.undo(), NO);
        due("the cost stays", x.single(0, 0), 1);
    }

    @Says({"NO.", "NO: not as things stand.", "nothing changes then."})
    static void promise19_nothingToUndo() {
        leaves(SoftCosts::new, "of a new object", SoftCosts::undo, NO);
        leaves(() -> laid(TABLE), "behind lay", SoftCosts::undo, NO);
        leaves(() -> {
            SoftCosts x = busy();
            while (x.undo() > 0) {
                x.count(5);
            }
            return x;
        }, "when all is undone", SoftCosts::undo, NO);
    }

    @Says("UNDONE is the latest change")
    static void promise19_theLatestFirst() {
        SoftCosts x = laid("v3;");
        x.grow(0, 0, 1);
        x.grow(0, 1, 2);
        x.grow(0, 2, 3);
        due("undo", x.undo(), 2);
        singles(x, 0, 1, 2, 0);
        due("undo", x.undo(), 1);
        singles(x, 0, 1, 0, 0);
        x.grow(0, 2, 9);
        due("a change behind undo", x.count(5), 2);
        due("undo of it", x.undo(), 1);
        singles(x, 0, 1, 0, 0);
        due("undo of the first", x.undo(), 0);
        singles(x, 0, 0, 0, 0);
    }

    @Says("UNDONE is the latest change")
    static void promise19_undoIsNoChange() {
        SoftCosts x = laid("v2;");
        x.grow(0, 0, 1);
        due("undo", x.undo(), 0);
        due("undo is not undone", x.undo(), NO);
        due("the cost", x.single(0, 0), 0);
    }

    @Says("A change: PROJECTED, EXTENDED, RAISED, SWEPT, SETTLED, a SINGLE cost that grows.")
    static void promise19_eachKindOfChange() {
        SoftCosts x = changed(6);
        for (int left = 5; left >= 0; left--) {
            due("undo", x.undo(), left);
            like("behind undo", picture(x), picture(changed(left)));
            holds("change " + left + " changed a cost", !costs(changed(left + 1)).equals(costs(changed(left))));
        }
    }

    /** The first of six changes, one of each kind. */
    private static SoftCosts changed(int changes) {
        SoftCosts x = laid("t20;v2;v2;u0,0,3;u0,1,2;u1,0,2;u1,1,2;b0,1,4;c0,0,1,1;");
        int[] want = {4, 1, 1, 3, 4, 1};
        for (int k = 0; k < changes; k++) {
            due("change " + k, changeOfKind(x, k), want[k]);
        }
        return x;
    }

    private static int changeOfKind(SoftCosts x, int kind) {
        switch (kind) {
            case 0: return x.project(0, 0, 0, 1);
            case 1: return x.extend(0, 1, 1, 1);
            case 2: return x.raise(0, 1);
            case 3: return x.sweep(NODES, 1);
            case 4: return x.grow(1, 1, 4);
            default: return x.settle(DIRECTED);
        }
    }

    @Says("such by which nothing becomes another, too;")
    static void promise19_changesByWhichNothingBecomesAnother() {
        SoftCosts x = laid("t5;v2;v2;u0,0,5;u0,1,5;u1,0,5;u1,1,5;b0,1,5;c0,0,1,5;c0,1,0,5;");
        x.raise(0, 5);
        String all = costs(x);
        due("grow at TOP", x.grow(0, 0, 1), 5);
        due("project of TOPS", x.project(0, 0, 0, 5), 5);
        due("extend of TOPS", x.extend(0, 0, 0, 5), 5);
        due("changes", x.count(5), 4);
        due("raise of TOPS", x.raise(0, 5), 5);
        due("changes", x.count(5), 5);
        like("nothing became another", costs(x), all);
        due("undo", x.undo(), 4);
        due("undo", x.undo(), 3);
        due("undo", x.undo(), 2);
        due("undo", x.undo(), 1);
        like("nothing became another", costs(x), all);
        due("CONSTANT", x.count(3), 5);
        due("undo of what did change", x.undo(), 0);
        due("CONSTANT", x.count(3), 0);
        SoftCosts y = laid("v2;v2;");
        y.sweep(ARCS, 9);
        y.settle(DIRECTED);
        due("sweep and settle", y.count(5), 2);
        due("undo of settle", y.undo(), 1);
        due("undo of sweep", y.undo(), 0);
    }

    @Says("UNDONE is the latest change")
    static void promise19_refusedCallsAndQuestionsAreNone() {
        SoftCosts x = laid(TABLE);
        x.grow(9, 0, 1);
        x.project(0, 0, 0, 9);
        x.extend(0, 0, 0, 9);
        x.raise(0, 9);
        x.sweep(3, 1);
        x.settle(3);
        x.bound(1);
        x.choose(0, 1);
        x.best(-1);
        x.tries();
        x.fault();
        due("changes", x.count(5), 0);
        due("undo", x.undo(), NO);
    }

    @Says("UNDONE is the latest change")
    static void promise19_theChoiceAndTheTextStay() {
        SoftCosts x = busy();
        x.write('t');
        due("undo", x.undo(), 5);
        due("the CHOICE of NAME 0", x.choose(0, 1), NO);
        due("the CHOICE of NAME 1", x.choose(1, 2), NO);
        due("THE TEXT", x.fault(), x.count(6) - 1);
    }
}
