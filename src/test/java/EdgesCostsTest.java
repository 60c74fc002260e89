/** Promises 6 to 12 at their edges: costs, and choices. */
public final class EdgesCostsTest extends Edges {
    /** NAMES of 2, 3 and 4 VALUES; of the last two there is a TABLE. */
    private static final String SIZES = "t10;v2;v3;v4;u0,1,1;u1,2,2;u2,3,3;b1,2,4;";
    private static final String NINE_TABLES =
        "v2;v2;v2;v2;v2;v2;b0,1,1;b0,2,1;b0,3,1;b0,4,1;b1,2,1;b1,3,1;b1,4,1;b2,3,1;b3,4,1;";

    public static void main(String[] args) {
        run(EdgesCostsTest.class);
    }

    // ---- 6 name

    @Says("Of a NAME: how many VALUES (what = 0)")
    static void promise06_values() {
        SoftCosts x = laid(SIZES);
        due("the fewest", x.name(0, 0), 2);
        due("those between", x.name(1, 0), 3);
        due("the most", x.name(2, 0), 4);
    }

    @Says("TABLES that it is in, as bits (1)")
    static void promise06_tablesAsBits() {
        SoftCosts x = laid(NINE_TABLES);
        due("lower NAME of four", x.name(0, 1), 15);
        due("lower and other NAME", x.name(1, 1), 1 + 16 + 32 + 64);
        due("also of the ninth", x.name(3, 1), 4 + 32 + 128 + 256);
        due("other NAME of the ninth", x.name(4, 1), 8 + 64 + 256);
        due("of none", x.name(5, 1), 0);
    }

    @Says({"VALUES that are SHUT, as bits (2)", "A VALUE is SHUT, if the SUM of the CONSTANT and its SINGLE cost is TOP."})
    static void promise06_shutAtTopNotBelow() {
        SoftCosts x = laid("t10;v4;u0,0,9;u0,1,10;u0,2,0;u0,3,11;");
        due("SHUT", x.name(0, 2), 2 + 8);
        due("none is SHUT", laid("t1;v4;").name(0, 2), 0);
        due("all are SHUT", laid("t1;v4;u0,0,1;u0,1,1;u0,2,1;u0,3,1;").name(0, 2), 15);
    }

    @Says("A VALUE is SHUT, if the SUM of the CONSTANT and its SINGLE cost is TOP.")
    static void promise06_shutWithTheConstant() {
        SoftCosts x = laid("t10;v2;v4;u0,0,4;u0,1,4;u1,0,5;u1,1,6;u1,2,7;");
        due("none ahead of raise", x.name(1, 2), 0);
        due("raise", x.raise(0, 4), 4);
        due("SUMS of 9, 10 and 11", x.name(1, 2), 2 + 4);
        due("undo", x.undo(), 0);
        due("none behind undo", x.name(1, 2), 0);
        SoftCosts y = laid("t3;v2;v2;u0,0,3;u0,1,3;");
        y.raise(0, 3);
        due("SINGLE costs of 0 with a CONSTANT of TOP", y.name(1, 2), 3);
    }

    @Says("its least SINGLE cost (3).")
    static void promise06_leastSingle() {
        SoftCosts x = laid("t9;v4;v3;v2;u0,0,4;u0,1,3;u0,2,5;u0,3,2;u1,0,1;u1,1,2;u1,2,3;u2,0,9;u2,1,9;");
        due("the last one", x.name(0, 3), 2);
        due("the first one", x.name(1, 3), 1);
        due("TOP", x.name(2, 3), 9);
        x.raise(0, 2);
        due("behind raise", x.name(0, 3), 0);
    }

    @Says({"BAD.", "BAD: a number is none that is told (NAMES, VALUES, TABLES such as there are;"})
    static void promise06_namesThatThereAreNot() {
        for (int i : new int[] {-1, 2, 3, 5, 6, 99, FAR, DEEP}) {
            for (int what = 0; what < 4; what++) {
                int asked = what;
                due("name(" + i + "," + what + ")", busy().name(i, asked), BAD);
            }
        }
        refused("name(2,0)", x -> x.name(2, 0), BAD);
    }

    @Says("BAD.")
    static void promise06_questionsThatThereAreNot() {
        for (int what : new int[] {-1, 4, 5, FAR, DEEP}) {
            refused("name(0," + what + ")", x -> x.name(0, what), BAD);
            due("name(9," + what + ")", busy().name(9, what), BAD);
        }
    }

    // ---- 7 single

    @Says("SINGLE cost of a VALUE.")
    static void promise07_from0ToTop() {
        SoftCosts x = laid("t7;v2;v4;u0,1,7;u1,0,6;u1,3,1;");
        singles(x, 0, 0, 7);
        singles(x, 1, 6, 0, 0, 1);
    }

    @Says("BAD.")
    static void promise07_namesThatThereAreNot() {
        for (int i : new int[] {-1, 3, 4, 6, FAR, DEEP}) {
            due("single(" + i + ",0)", laid(SIZES).single(i, 0), BAD);
        }
        refused("single(2,0)", x -> x.single(2, 0), BAD);
    }

    @Says("BAD.")
    static void promise07_valuesThatThereAreNot() {
        SoftCosts x = laid(SIZES);
        for (int i = 0; i < 3; i++) {
            due("the last VALUE of " + i, x.single(i, i + 1), i + 1);
            due("the one behind it", x.single(i, i + 2), BAD);
            due("the one ahead of the first", x.single(i, -1), BAD);
            due("far", x.single(i, FAR), BAD);
            due("deep", x.single(i, DEEP), BAD);
        }
        refused("single(0,2)", y -> y.single(0, 2), BAD);
    }

    // ---- 8 table

    @Says("Of a TABLE: I (what = 0), J (1)")
    static void promise08_itsNames() {
        SoftCosts x = laid("v2;v2;v2;v2;v2;v2;b4,5,1;b0,5,1;b0,1,1;");
        due("I of 0", x.table(0, 0), 4);
        due("J of 0", x.table(0, 1), 5);
        due("I of 1", x.table(1, 0), 0);
        due("J of 1", x.table(1, 1), 5);
        due("I of 2", x.table(2, 0), 0);
        due("J of 2", x.table(2, 1), 1);
        due("the ninth's J", laid(NINE_TABLES).table(8, 1), 4);
    }

    @Says("the least cost of a PAIR (2), the greatest (3).")
    static void promise08_leastAndGreatest() {
        SoftCosts x = laid("t9;v2;v3;b0,1,5;c0,0,1,6;c0,0,2,7;c0,1,0,8;c0,1,2,4;");
        due("the least is the last", x.table(0, 2), 4);
        due("the greatest is between", x.table(0, 3), 8);
        SoftCosts y = laid("t9;v3;v2;b0,1,3;c0,0,1,6;c0,1,0,7;c0,1,1,4;c0,2,0,5;c0,2,1,8;");
        due("the least is the first", y.table(0, 2), 3);
        due("the greatest is the last", y.table(0, 3), 8);
        SoftCosts v = laid("t9;v2;v3;b0,1,5;c0,0,1,6;c0,0,2,7;c0,1,0,4;c0,1,2,8;");
        due("the least begins a row", v.table(0, 2), 4);
        due("the greatest ends the longer row", v.table(0, 3), 8);
        SoftCosts z = laid("t2;v2;v2;b0,1,2;c0,0,1,9;c0,1,0,2;");
        due("all are TOP: the least", z.table(0, 2), 2);
        due("all are TOP: the greatest", z.table(0, 3), 2);
        SoftCosts w = laid("v4;v4;b0,1,0;");
        due("all are 0: the least", w.table(0, 2), 0);
        due("all are 0: the greatest", w.table(0, 3), 0);
    }

    @Says("the least cost of a PAIR (2), the greatest (3).")
    static void promise08_ofItsOwnPairsAlone() {
        SoftCosts x = laid("v4;v4;v4;b0,1,1;b1,2,9;b0,2,2;");
        due("the greatest ahead of greater ones", x.table(0, 3), 1);
        due("the greatest between", x.table(1, 3), 9);
        due("the greatest behind greater ones", x.table(2, 3), 2);
    }

    @Says("BAD.")
    static void promise08_tablesThatThereAreNot() {
        for (int t : new int[] {-1, 1, 8, 9, FAR, DEEP}) {
            for (int what = 0; what < 4; what++) {
                due("table(" + t + "," + what + ")", laid(SIZES).table(t, what), BAD);
            }
        }
        due("the tenth", laid(NINE_TABLES).table(9, 0), BAD);
        due("where there is none at all", laid("v2;v2;").table(0, 0), BAD);
        refused("table(1,0)", x -> x.table(1, 0), BAD);
    }

    @Says("BAD.")
    static void promise08_questionsThatThereAreNot() {
        for (int what : new int[] {-1, 4, FAR, DEEP}) {
            refused("table(0," + what + ")", x -> x.table(0, what), BAD);
        }
    }

    // ---- 9 pair

    @Says("The cost of a PAIR (a of the lower NAME, b of the other one) in a TABLE.")
    static void promise09_theLowerNamesValueComesFirst() {
        SoftCosts x = laid("t9;v2;v2;b0,1,0;c0,0,1,3;c0,1,0,9;");
        due("pair(0,0,1)", x.pair(0, 0, 1), 3);
        due("pair(0,1,0)", x.pair(0, 1, 0), 9);
        due("pair(0,0,0)", x.pair(0, 0, 0), 0);
    }

    @Says("BAD.")
    static void promise09_valuesThatThereAreNot() {
        SoftCosts x = laid("v2;v4;b0,1,1;");
        due("the last PAIR", x.pair(0, 1, 3), 0);
        due("a too high", x.pair(0, 2, 0), BAD);
        due("a as high as b may be", x.pair(0, 3, 1), BAD);
        due("b too high", x.pair(0, 0, 4), BAD);
        due("a too low", x.pair(0, -1, 1), BAD);
        due("b too low", x.pair(0, 1, -1), BAD);
        SoftCosts y = laid("v4;v2;b0,1,1;");
        due("the last PAIR of the other one", y.pair(0, 3, 1), 0);
        due("b as high as a may be", y.pair(0, 1, 3), BAD);
        due("b too high by one", y.pair(0, 1, 2), BAD);
        for (int far : new int[] {FAR, DEEP}) {
            due("a far", x.pair(0, far, 0), BAD);
            due("b far", x.pair(0, 0, far), BAD);
        }
        refused("pair(0,2,0)", z -> z.pair(0, 2, 0), BAD);
    }

    @Says("BAD.")
    static void promise09_tablesThatThereAreNot() {
        for (int t : new int[] {-1, 1, 9, FAR, DEEP}) {
            refused("pair(" + t + ",0,0)", x -> x.pair(t, 0, 0), BAD);
        }
        due("where there is none at all", laid("v2;v2;").pair(0, 0, 0), BAD);
        due("the ninth", laid(NINE_TABLES).pair(8, 1, 1), 1);
        due("the tenth", laid(NINE_TABLES).pair(9, 0, 0), BAD);
    }

    // ---- 10 grow

    @Says({"SINGLE cost of a VALUE grows by x (1 to 99): the SUM of both.", "SUM of costs: all together, but TOP at most."})
    static void promise10_upToTop() {
        SoftCosts x = laid("t10;v2;u0,0,3;");
        due("to one below TOP", x.grow(0, 0, 6), 9);
        due("to TOP", x.grow(0, 0, 1), 10);
        due("at TOP", x.grow(0, 0, 1), 10);
        SoftCosts y = laid("t10;v2;u0,0,3;");
        due("beyond TOP", y.grow(0, 0, 8), 10);
        singles(y, 0, 10, 0);
    }

    @Says("SINGLE cost of a VALUE grows by x (1 to 99): the SUM of both.")
    static void promise10_by1To99() {
        SoftCosts x = laid("t99;v2;");
        due("by 1", x.grow(0, 0, 1), 1);
        due("by 99", x.grow(0, 1, 99), 99);
        due("by 99 at 1", x.grow(0, 0, 99), 99);
        for (int step : new int[] {0, -1, 100, FAR, DEEP}) {
            refused("grow(0,0," + step + ")", y -> y.grow(0, 0, step), BAD);
        }
    }

    @Says("BAD.")
    static void promise10_valuesThatThereAreNot() {
        refused("grow(2,0,1)", x -> x.grow(2, 0, 1), BAD);
        refused("grow(-1,0,1)", x -> x.grow(-1, 0, 1), BAD);
        refused("grow(0,2,1)", x -> x.grow(0, 2, 1), BAD);
        refused("grow(1,3,1)", x -> x.grow(1, 3, 1), BAD);
        refused("grow(0,-1,1)", x -> x.grow(0, -1, 1), BAD);
        refused("grow(FAR,FAR,1)", x -> x.grow(FAR, FAR, 1), BAD);
        refused("grow(DEEP,DEEP,1)", x -> x.grow(DEEP, DEEP, 1), BAD);
    }

    @Says("SINGLE cost of a VALUE grows by x (1 to 99): the SUM of both.")
    static void promise10_noOtherCostGrows() {
        SoftCosts x = laid(SIZES);
        x.grow(1, 2, 5);
        singles(x, 0, 0, 1);
        singles(x, 1, 0, 0, 7);
        singles(x, 2, 0, 0, 0, 3);
        pairs(x, 0, "4 0 0 0/0 4 0 0/0 0 4 0");
        due("CONSTANT", x.count(3), 0);
    }

    // ---- 11 choose

    @Says("The CHOICE told has VALUE a of NAME i")
    static void promise11_whichItHad() {
        SoftCosts x = laid("v2;v4;");
        due("the first time", x.choose(1, 3), 0);
        due("back", x.choose(1, 0), 3);
        due("another NAME", x.choose(0, 1), 0);
        due("of the first one again", x.choose(1, 2), 0);
    }

    @Says("NO: it has it.")
    static void promise11_theOneItHas() {
        due("VALUE 0 at first", laid("v2;").choose(0, 0), NO);
        refused("choose(0,1)", x -> x.choose(0, 1), NO);
        refused("choose(1,2)", x -> x.choose(1, 2), NO);
    }

    @Says("(a choice alone, no change): which it had.")
    static void promise11_noChangeThatCouldBeUndone() {
        SoftCosts x = laid("v2;");
        x.choose(0, 1);
        due("changes", x.count(5), 0);
        due("undo", x.undo(), NO);
        x.grow(0, 0, 1);
        x.choose(0, 0);
        due("undo of grow", x.undo(), 0);
        due("the CHOICE stays", x.choose(0, 0), NO);
    }

    @Says("BAD;")
    static void promise11_valuesThatThereAreNot() {
        refused("choose(2,0)", x -> x.choose(2, 0), BAD);
        refused("choose(-1,0)", x -> x.choose(-1, 0), BAD);
        refused("choose(0,2)", x -> x.choose(0, 2), BAD);
        refused("choose(1,3)", x -> x.choose(1, 3), BAD);
        refused("choose(0,-1)", x -> x.choose(0, -1), BAD);
        refused("choose(FAR,FAR)", x -> x.choose(FAR, FAR), BAD);
        refused("choose(DEEP,DEEP)", x -> x.choose(DEEP, DEEP), BAD);
    }

    // ---- 12 total

    @Says({"TOTAL of the CHOICE told.", "SUM of costs: all together, but TOP at most."})
    static void promise12_topAtMost() {
        SoftCosts x = laid("t10;v2;v2;u0,0,3;u1,0,2;b0,1,4;");
        due("one below TOP", x.total(), 9);
        x.grow(1, 0, 1);
        due("TOP", x.total(), 10);
        x.grow(1, 0, 1);
        due("beyond TOP", x.total(), 10);
        SoftCosts y = laid("t99;v2;v2;v2;u0,0,99;u1,0,99;u2,0,99;b0,1,99;b0,2,99;b1,2,99;");
        due("far beyond TOP", y.total(), 99);
    }

    @Says({"A CHOICE is a VALUE of each NAME; its TOTAL: the SUM of the CONSTANT, their SINGLE costs, the costs of their PAIRS.",
        "TOTAL of the CHOICE told."})
    static void promise12_allItsCostsAndNoOthers() {
        SoftCosts x = laid("t99;v2;v2;v2;u0,0,1;u0,1,2;u1,1,4;u2,0,8;b0,1,16;c0,1,0,3;b1,2,32;b0,2,5;");
        like("TOTALS", totals(x), "62 17 18 37 45 10 30 59");
        x.grow(0, 0, 1);
        x.grow(0, 1, 1);
        x.raise(0, 2);
        due("with the CONSTANT", x.total(), 63);
        due("of a table alone", laid("v2;v2;b0,1,7;").total(), 7);
        due("of nothing", laid("v2;").total(), 0);
    }

    @Says("TOP is too much.")
    static void promise12_topWithoutOtherCosts() {
        due("a SINGLE cost of TOP", laid("t1;v2;u0,0,1;").total(), 1);
        due("a PAIR of TOP", laid("t1;v2;v2;b0,1,1;").total(), 1);
        due("best without TOP", laid("t1;v2;u0,0,1;").best(0), 1);
    }
}
