/** Promises 16 to 18 at their edges: sweeps, and what they settle at. */
public final class EdgesSweptTest extends Edges {
    /** NAME 2 is raised in a first sweep of arcs, VALUE 0 of NAME 0 becomes TOP in a second, NAME 1 is raised in a third. */
    private static final String LATE = "t5;v2;v2;v2;u0,0,3;u1,0,1;u2,0,2;u2,1,2;b0,1,0;c0,1,1,1;";

    public static void main(String[] args) {
        run(EdgesSweptTest.class);
    }

    /** Found by a search: sweeps of arcs change something 22 times here. */
    private static SoftCosts lasting() {
        SoftCosts x = laid("t24;v4;v3;v3;v3;v3;v3;b2,3,3;b1,4,1;b2,5,4;b0,1,1;b0,5,5;b3,4,17;b2,4,0;b1,5,24;b4,5,24;"
            + "c7,1,2,14;c4,2,0,15;c4,3,0,1;c5,1,2,1;c0,1,0,24;c5,2,1,1;c2,0,1,2;c2,1,0,1;c8,0,0,0;c8,0,1,2;c4,0,1,4;");
        int[][] more = {{3, 2, 8}, {1, 2, 16}, {4, 0, 7}, {5, 0, 2}, {2, 1, 1}, {5, 1, 24}, {1, 0, 18}, {5, 2, 1},
            {0, 0, 17}, {4, 2, 2}, {0, 1, 22}, {2, 2, 15}, {0, 3, 19}};
        for (int[] m : more) {
            x.grow(m[0], m[1], m[2]);
        }
        return x;
    }

    // ---- 16 sweep: nodes

    @Says({"0 NODES", "RAISED by its least SINGLE cost"})
    static void promise16_nodesRaiseByTheLeast() {
        SoftCosts x = laid("t10;v3;v2;v2;u0,0,3;u0,1,2;u0,2,10;u1,0,4;u2,0,1;u2,1,1;");
        due("sweep", x.sweep(NODES, 1), 3);
        singles(x, 0, 1, 0, 10);
        singles(x, 1, 4, 0);
        singles(x, 2, 0, 0);
    }

    @Says("(not, if that is 0); then SINGLE costs of its VALUES that are SHUT")
    static void promise16_nodesNotIfTheLeastIsZero() {
        SoftCosts x = laid("t10;v2;v3;u0,0,3;u1,1,9;");
        due("sweep", x.sweep(NODES, 1), 0);
        singles(x, 0, 3, 0);
        singles(x, 1, 0, 9, 0);
    }

    @Says("of each NAME, 0 first:")
    static void promise16_nodesGoByNamesTheFirstFirst() {
        SoftCosts x = laid("t5;v2;v2;u0,0,3;u1,0,2;u1,1,2;");
        due("sweep", x.sweep(NODES, 1), 2);
        due("a NAME ahead is not SHUT by what comes behind", x.single(0, 0), 3);
        due("though it is SHUT now", x.name(0, 2), 1);
        due("sweep again", x.sweep(NODES, 1), 2);
        due("it is TOP now", x.single(0, 0), 5);
        SoftCosts y = laid("t5;v2;v2;u0,0,2;u0,1,2;u1,0,3;");
        due("sweep", y.sweep(NODES, 1), 2);
        due("a NAME behind is SHUT by what came ahead", y.single(1, 0), 5);
    }

    @Says("then SINGLE costs of its VALUES that are SHUT (by the CONSTANT as it is then) become TOP.")
    static void promise16_nodesShutValuesBecomeTop() {
        SoftCosts x = laid("t5;v2;v4;u0,0,2;u0,1,2;u1,0,2;u1,1,3;u1,2,0;u1,3,4;");
        due("sweep", x.sweep(NODES, 1), 2);
        singles(x, 0, 0, 0);
        singles(x, 1, 2, 5, 0, 5);
    }

    @Says("then SINGLE costs of its VALUES that are SHUT (by the CONSTANT as it is then) become TOP.")
    static void promise16_nodesWhereAllIsShut() {
        SoftCosts x = hopeless();
        due("sweep", x.sweep(NODES, 1), 3);
        singles(x, 0, 3, 3);
        singles(x, 1, 3, 3);
        due("PAIRS stay", x.table(0, 3), 1);
    }

    @Says("0 NODES")
    static void promise16_nodesLeavePairs() {
        SoftCosts x = laid("t6;v2;v2;u0,0,6;u0,1,1;b0,1,2;c0,0,1,2;c0,1,0,3;");
        due("sweep", x.sweep(NODES, 9), 1);
        pairs(x, 0, "2 2/3 2");
    }

    // ---- 16 sweep: arcs

    @Says({"1 ARCS", "costs of PAIRS of which a VALUE has SINGLE cost TOP become TOP;"})
    static void promise16_arcsPairsOfTopValuesBecomeTop() {
        SoftCosts x = laid("t6;v2;v2;u0,0,6;u1,1,6;b0,1,2;c0,0,1,1;c0,1,0,1;");
        due("sweep", x.sweep(ARCS, 1), 1);
        pairs(x, 0, "6 6/0 6");
        singles(x, 0, 6, 0);
        singles(x, 1, 0, 6);
        SoftCosts y = laid("t6;v2;v2;u0,0,5;u1,1,5;b0,1,0;");
        y.sweep(ARCS, 1);
        pairs(y, 0, "0 0/0 0");
    }

    @Says("costs of PAIRS of which a VALUE has SINGLE cost TOP become TOP;")
    static void promise16_arcsNotOfValuesThatAreShutAlone() {
        SoftCosts x = laid("t5;v2;v2;v2;u0,0,3;u2,0,2;u2,1,2;b0,1,0;");
        x.raise(2, 2);
        due("SHUT", x.name(0, 2), 1);
        x.sweep(ARCS, 1);
        pairs(x, 0, "0 0/0 0");
        due("TOP by the SWEEP of NODES", x.single(0, 0), 5);
        x.sweep(ARCS, 1);
        pairs(x, 0, "5 5/0 0");
    }

    @Says("costs of PAIRS of which a VALUE has SINGLE cost TOP become TOP;")
    static void promise16_arcsTopsComeAheadOfProjecting() {
        SoftCosts x = laid("t5;v2;v2;u0,0,2;b0,1,3;c0,0,1,3;c0,1,1,0;");
        x.sweep(ARCS, 1);
        singles(x, 0, 5, 0);
        pairs(x, 0, "0 0/0 0");
        x.sweep(ARCS, 1);
        pairs(x, 0, "5 5/0 0");
        // with VALUE 0 of NAME 0 at TOP, the least of a column is that of VALUE 1
        SoftCosts y = laid("t5;v2;v2;u0,0,5;b0,1,0;c0,1,0,2;");
        y.sweep(ARCS, 1);
        singles(y, 1, 2, 0);
        pairs(y, 0, "5 5/0 0");
    }

    @Says({"then of each VALUE of I, then of J, 0 first:", "PROJECTED by the least cost of its PAIRS (not, if that is 0)."})
    static void promise16_arcsTheLowerNameComesFirst() {
        SoftCosts x = laid("t20;v2;v2;b0,1,3;c0,0,1,3;");
        due("sweep", x.sweep(ARCS, 1), 0);
        singles(x, 0, 3, 0);
        singles(x, 1, 0, 0);
        pairs(x, 0, "0 0/0 3");
    }

    @Says({"then of each VALUE of I, then of J, 0 first:", "PROJECTED by the least cost of its PAIRS (not, if that is 0)."})
    static void promise16_arcsTheOtherNameGetsWhatIsLeft() {
        SoftCosts x = laid("t20;v2;v3;b0,1,3;c0,0,1,5;c0,1,1,2;c0,0,2,4;");
        due("sweep", x.sweep(ARCS, 1), 0);
        singles(x, 0, 3, 0);
        singles(x, 1, 0, 2, 0);
        pairs(x, 0, "0 0 1/0 0 0");
    }

    @Says("then of each VALUE of I, then of J, 0 first:")
    static void promise16_arcsOfFourValues() {
        SoftCosts x = laid("t20;v4;v4;v4;b0,1,0;b0,2,0;c0,1,0,2;c0,2,0,2;c0,3,0,2;c1,0,0,2;c1,0,1,2;c1,0,2,2;c1,0,3,2;");
        due("sweep", x.sweep(ARCS, 1), 0);
        singles(x, 0, 2, 0, 0, 0);
        singles(x, 1, 0, 0, 0, 0);
        singles(x, 2, 0, 0, 0, 0);
        pairs(x, 0, "0 0 0 0/2 0 0 0/2 0 0 0/2 0 0 0");
        pairs(x, 1, "0 0 0 0/0 0 0 0/0 0 0 0/0 0 0 0");
        SoftCosts y = laid("t20;v2;v4;b0,1,0;c0,1,3,4;c0,0,3,3;");
        due("sweep", y.sweep(ARCS, 1), 0);
        singles(y, 1, 0, 0, 0, 3);
        pairs(y, 0, "0 0 0 0/0 0 0 1");
    }

    @Says("of each TABLE, 0 first:")
    static void promise16_arcsGoByTablesTheFirstFirst() {
        SoftCosts x = laid("t5;v2;v2;v2;b0,1,0;b0,2,0;c0,0,0,5;c0,0,1,5;");
        x.sweep(ARCS, 1);
        due("TOP by TABLE 0", x.single(0, 0), 5);
        pairs(x, 1, "5 5/0 0");
        SoftCosts y = laid("t5;v2;v2;v2;b0,1,0;b0,2,0;c1,0,0,5;c1,0,1,5;");
        y.sweep(ARCS, 1);
        due("TOP by TABLE 1", y.single(0, 0), 5);
        pairs(y, 0, "0 0/0 0");
    }

    @Says("Behind all TABLES a SWEEP of NODES.")
    static void promise16_arcsNodesComeBehindAllTables() {
        SoftCosts x = laid("t5;v2;v2;v2;u2,0,3;b0,1,2;c0,0,1,2;c0,1,0,2;b1,2,0;");
        due("sweep", x.sweep(ARCS, 1), 2);
        singles(x, 0, 0, 0);
        singles(x, 2, 5, 0);
        pairs(x, 1, "0 0/0 0");
        SoftCosts y = laid("t9;v2;u0,0,3;u0,1,4;");
        due("without a TABLE", y.sweep(ARCS, 1), 3);
    }

    // ---- 16 sweep: directed

    @Says({"2 DIRECTED", "of each NAME J, the last one first"})
    static void promise16_directedTheLastNameFirst() {
        SoftCosts x = laid("v2;v2;v2;u2,0,2;b0,1,0;b1,2,0;c0,0,1,2;c1,0,1,2;");
        due("sweep", x.sweep(DIRECTED, 1), 0);
        singles(x, 0, 2, 0);
        singles(x, 1, 0, 0);
        singles(x, 2, 0, 0);
        pairs(x, 0, "0 0/2 0");
        pairs(x, 1, "0 0/2 0");
    }

    @Says("of each TABLE, 0 first, whose higher NAME it is:")
    static void promise16_directedTheFirstTableFirst() {
        SoftCosts x = laid("v2;v2;v2;u2,0,2;b0,2,0;b1,2,0;c0,0,1,2;c1,0,1,2;");
        x.sweep(DIRECTED, 1);
        singles(x, 0, 2, 0);
        singles(x, 1, 0, 0);
        pairs(x, 1, "0 2/0 0");
        SoftCosts y = laid("v2;v2;v2;u2,0,2;b1,2,0;b0,2,0;c0,0,1,2;c1,0,1,2;");
        y.sweep(DIRECTED, 1);
        singles(y, 0, 0, 0);
        singles(y, 1, 2, 0);
        pairs(y, 1, "0 2/0 0");
    }

    @Says("of each TABLE, 0 first, whose higher NAME it is:")
    static void promise16_directedEachTableOnce() {
        // VALUE 1 of NAME 1 becomes TOP by TABLE 0, whose PAIRS with it stay as they are then
        SoftCosts x = laid("t5;v2;v2;v2;b1,2,1;b0,1,0;u1,1,4;u2,0,4;");
        due("sweep", x.sweep(DIRECTED, 1), 0);
        singles(x, 0, 0, 0);
        singles(x, 1, 0, 5);
        singles(x, 2, 3, 0);
        pairs(x, 0, "2 0/0 0");
        pairs(x, 1, "0 5/0 5");
    }

    @Says("costs of PAIRS of which a VALUE has SINGLE cost TOP become TOP; P of a VALUE a of I:")
    static void promise16_directedPairsOfTopValuesBecomeTop() {
        SoftCosts x = laid("t6;v2;v2;u0,0,6;u1,0,1;u1,1,2;b0,1,0;");
        due("a VALUE of the lower NAME", x.sweep(DIRECTED, 1), 1);
        pairs(x, 0, "6 6/0 0");
        singles(x, 0, 6, 0);
        singles(x, 1, 0, 1);
        SoftCosts y = laid("t6;v2;v2;u1,0,6;u1,1,2;b0,1,0;");
        due("a VALUE of the higher NAME", y.sweep(DIRECTED, 1), 2);
        pairs(y, 0, "6 0/6 0");
        singles(y, 0, 0, 0);
        singles(y, 1, 6, 0);
    }

    @Says("P of a VALUE a of I: the least, over VALUES b of J, of the SUM of their PAIR's cost and b's SINGLE cost;")
    static void promise16_directedPIsTopAtMost() {
        SoftCosts x = laid("t6;v2;v2;u1,0,2;u1,1,4;b0,1,0;c0,0,0,4;c0,0,1,2;");
        due("just TOP", x.sweep(DIRECTED, 1), 2);
        singles(x, 0, 6, 0);
        singles(x, 1, 0, 0);
        pairs(x, 0, "6 6/0 2");
        SoftCosts y = laid("t6;v2;v2;u1,0,2;u1,1,4;b0,1,0;c0,0,0,5;c0,0,1,3;");
        due("beyond TOP", y.sweep(DIRECTED, 1), 2);
        singles(y, 0, 6, 0);
        singles(y, 1, 0, 1);
        pairs(y, 0, "6 6/0 1");
    }

    @Says("P of a VALUE a of I: the least, over VALUES b of J, of the SUM of their PAIR's cost and b's SINGLE cost;")
    static void promise16_directedPIsTheLeastOfAllValues() {
        for (int b = 0; b < 3; b++) {
            // P of VALUE 0 is 2 by that b, P of VALUE 1 is 0 by the one behind it
            SoftCosts x = laid("v2;v3;b0,1,0;c0,0,0,5;c0,0,1,5;c0,0,2,5;c0,0," + b + ",2;");
            x.sweep(DIRECTED, 1);
            singles(x, 0, 2, 0);
            due("the TABLE's greatest", x.table(0, 3), 3);
            due("the TABLE's least", x.table(0, 2), 0);
        }
    }

    @Says("E of a VALUE b of J: the greatest, over VALUES a of I, of P of a less their PAIR's cost (0 at least);")
    static void promise16_directedEIsZeroAtLeast() {
        SoftCosts x = laid("t20;v2;v2;u1,1,4;b0,1,0;c0,0,1,3;c0,1,1,3;");
        due("sweep", x.sweep(DIRECTED, 1), 0);
        singles(x, 0, 0, 0);
        singles(x, 1, 0, 4);
        pairs(x, 0, "0 3/0 3");
    }

    @Says({"E of a VALUE b of J: the greatest, over VALUES a of I, of P of a less their PAIR's cost (0 at least);",
        "each b is EXTENDED by E (not, if that is 0), then each a PROJECTED by P (not, if that is 0), VALUES 0 first."})
    static void promise16_directedNoMoreThanEIsExtended() {
        SoftCosts x = laid("t20;v2;v2;u1,0,2;u1,1,9;b0,1,3;");
        due("sweep", x.sweep(DIRECTED, 1), 2);
        singles(x, 0, 3, 0);
        singles(x, 1, 0, 4);
        pairs(x, 0, "0 0/0 6");
        // E is by VALUE 1 of three: 4 less 1
        SoftCosts y = laid("t20;v3;v2;u1,0,9;u1,1,1;b0,1,0;c0,0,1,0;c0,1,0,1;c0,1,1,3;c0,2,1,1;");
        due("the greatest is between", y.sweep(DIRECTED, 1), 1);
        singles(y, 0, 0, 3, 1);
        singles(y, 1, 6, 0);
        pairs(y, 0, "2 0/0 0/1 0");
    }

    @Says("each b is EXTENDED by E (not, if that is 0), then each a PROJECTED by P (not, if that is 0), VALUES 0 first.")
    static void promise16_directedNamesOfUnlikeSizes() {
        SoftCosts x = laid("t20;v2;v4;u1,0,1;u1,1,1;u1,2,1;u1,3,1;b0,1,0;");
        due("more VALUES b", x.sweep(DIRECTED, 1), 1);
        singles(x, 1, 0, 0, 0, 0);
        pairs(x, 0, "0 0 0 0/0 0 0 0");
        // E of VALUE 1 is by the last VALUE a alone
        SoftCosts y = laid("t20;v4;v2;u1,0,3;u1,1,5;b0,1,0;c0,0,1,5;c0,1,1,5;c0,2,1,5;c0,3,0,9;");
        due("more VALUES a", y.sweep(DIRECTED, 1), 3);
        singles(y, 0, 0, 0, 0, 2);
        singles(y, 1, 0, 0);
        pairs(y, 0, "0 7/0 7/0 7/7 0");
    }

    @Says("E of a VALUE b of J: the greatest, over VALUES a of I, of P of a less their PAIR's cost (0 at least);")
    static void promise16_directedPOfAnotherTableIsForgotten() {
        // P of VALUE 3 is 5 in TABLE 0; the lower NAME of TABLE 1 has no VALUE 3
        SoftCosts x = laid("v3;v4;v2;b1,2,0;b0,1,0;c0,3,0,5;c0,3,1,5;");
        due("sweep", x.sweep(DIRECTED, 1), 0);
        singles(x, 0, 0, 0, 0);
        singles(x, 1, 0, 0, 0, 5);
        pairs(x, 1, "0 0 0 0/0 0 0 0/0 0 0 0");
    }

    @Says("Behind all a SWEEP of NODES.")
    static void promise16_directedNodesComeBehindAll() {
        SoftCosts x = laid("t5;v2;v2;v2;v2;u3,0,2;u3,1,2;u1,0,3;b0,3,0;b1,2,0;");
        due("sweep", x.sweep(DIRECTED, 1), 2);
        singles(x, 0, 0, 0);
        singles(x, 1, 5, 0);
        pairs(x, 1, "0 0/0 0");
        SoftCosts y = laid("t9;v2;u0,0,3;u0,1,4;");
        due("without a TABLE", y.sweep(DIRECTED, 1), 3);
    }

    // ---- 16 sweep: how many

    @Says({"n SWEEPS (1 to 9) of a kind are done", "the CONSTANT then."})
    static void promise16_nAre1To9() {
        due("one", laid(LATE).sweep(ARCS, 1), 2);
        due("two", laid(LATE).sweep(ARCS, 2), 2);
        due("three", laid(LATE).sweep(ARCS, 3), 3);
        due("nine", laid(LATE).sweep(ARCS, 9), 3);
        for (int n : new int[] {0, -1, 10, FAR, DEEP}) {
            refused("sweep(0," + n + ")", x -> x.sweep(0, n), BAD);
        }
    }

    @Says("n SWEEPS (1 to 9) of a kind are done")
    static void promise16_nineAreNine() {
        SoftCosts x = lasting();
        x.sweep(ARCS, 9);
        SoftCosts y = lasting();
        for (int k = 0; k < 8; k++) {
            y.sweep(ARCS, 1);
        }
        holds("eight are fewer", !costsOf(x).equals(costsOf(y)));
        y = lasting();
        for (int k = 0; k < 9; k++) {
            y.sweep(ARCS, 1);
        }
        like("nine times one", costsOf(lasted(ARCS, 9)), costsOf(y));
    }

    private static SoftCosts lasted(int kind, int n) {
        SoftCosts x = lasting();
        x.sweep(kind, n);
        return x;
    }

    /** CONSTANT, SINGLE costs and the TABLES' ends, in few calls. */
    private static String costsOf(SoftCosts x) {
        StringBuilder s = new StringBuilder().append(x.count(3));
        for (int i = 0; i < x.count(0); i++) {
            for (int a = 0; a < x.name(i, 0); a++) {
                s.append(' ').append(x.single(i, a));
            }
        }
        for (int t = 0; t < x.count(1); t++) {
            s.append(" | ").append(x.table(t, 2)).append(' ').append(x.table(t, 3));
        }
        return s.toString();
    }

    @Says("(one change):")
    static void promise16_allAreOneChange() {
        SoftCosts x = laid(LATE);
        String ahead = picture(x);
        x.sweep(ARCS, 3);
        due("changes", x.count(5), 1);
        due("undo", x.undo(), 0);
        like("behind undo", picture(x), ahead);
    }

    @Says({"BAD.", "SWEEPS 0 to 2)."})
    static void promise16_kindsThatThereAreNot() {
        for (int kind : new int[] {-1, 3, FAR, DEEP}) {
            refused("sweep(" + kind + ",1)", x -> x.sweep(kind, 1), BAD);
            due("sweep(" + kind + ",0)", busy().sweep(kind, 0), BAD);
        }
    }

    @Says("so that no TOTAL becomes another one:")
    static void promise16_noTotalBecomesAnother() {
        String[] texts = {LATE, "t10;v2;v3;u0,0,3;u0,1,1;u1,2,5;b0,1,4;c0,1,2,6;c0,0,1,2;",
            "t6;v2;v2;u0,0,6;u1,1,6;b0,1,2;c0,0,1,1;c0,1,0,1;", "t3;v2;v2;u0,0,3;u0,1,5;b0,1,1;"};
        for (String text : texts) {
            for (int kind = 0; kind < 3; kind++) {
                SoftCosts x = laid(text);
                String ahead = totals(x);
                x.sweep(kind, 4);
                like("TOTALS of " + text + " by " + kind, totals(x), ahead);
            }
        }
    }

    // ---- 17 settle

    @Says({"SETTLED: how many SWEEPS were done that changed a cost (0 to 20).", "(all are behind it as they were ahead of it)"})
    static void promise17_noneThatChangedACost() {
        for (int kind = 0; kind < 3; kind++) {
            SoftCosts x = laid("t10;v2;v2;u0,0,3;b0,1,2;");
            String ahead = totals(x);
            due("settle(" + kind + ")", x.settle(kind), 0);
            due("it is a change", x.count(5), 1);
            singles(x, 0, 3, 0);
            pairs(x, 0, "2 0/0 2");
            like("TOTALS", totals(x), ahead);
        }
    }

    @Says({"SETTLED by a SWEEP is what comes, if it is done again and again till one changes no cost",
        "SETTLED: how many SWEEPS were done that changed a cost (0 to 20)."})
    static void promise17_theLastOneIsNotCounted() {
        SoftCosts x = laid(LATE);
        due("settle", x.settle(ARCS), 3);
        due("CONSTANT", x.count(3), 3);
        singles(x, 0, 5, 0);
        singles(x, 1, 0, 0);
        pairs(x, 0, "5 5/0 0");
        due("settle again", x.settle(ARCS), 0);
        due("by NODES", laid(LATE).settle(NODES), 2);
    }

    @Says({"or 20 are done.", "SETTLED: how many SWEEPS were done that changed a cost (0 to 20)."})
    static void promise17_twentyAtMost() {
        SoftCosts x = lasting();
        due("settle", x.settle(ARCS), 20);
        due("settle of what is left", x.settle(ARCS), 2);
        due("settle of nothing", x.settle(ARCS), 0);
        SoftCosts y = lasting();
        y.sweep(ARCS, 9);
        y.sweep(ARCS, 9);
        y.sweep(ARCS, 2);
        due("two behind twenty", y.settle(ARCS), 2);
    }

    @Says("till one changes no cost (all are behind it as they were ahead of it)")
    static void promise17_theConstantIsACost() {
        SoftCosts x = laid("t4;v2;v2;u0,0,4;u0,1,4;u1,0,4;u1,1,4;");
        due("settle where the CONSTANT alone changes", x.settle(NODES), 1);
        due("CONSTANT", x.count(3), 4);
    }

    @Says("till one changes no cost (all are behind it as they were ahead of it)")
    static void promise17_movesByWhichNothingBecomesAnother() {
        SoftCosts x = laid("t4;v2;v2;u0,0,4;u0,1,4;u1,0,4;u1,1,4;b0,1,4;c0,0,1,4;c0,1,0,4;");
        x.raise(0, 4);
        for (int kind = 0; kind < 3; kind++) {
            due("settle(" + kind + ") of TOPS", x.settle(kind), 0);
        }
    }

    @Says("A change: PROJECTED, EXTENDED, RAISED, SWEPT, SETTLED, a SINGLE cost that grows.")
    static void promise17_allAreOneChange() {
        SoftCosts x = laid(LATE);
        String ahead = picture(x);
        x.settle(ARCS);
        due("changes", x.count(5), 1);
        due("undo", x.undo(), 0);
        like("behind undo", picture(x), ahead);
    }

    @Says({"BAD.", "SWEEPS 0 to 2)."})
    static void promise17_kindsThatThereAreNot() {
        for (int kind : new int[] {-1, 3, FAR, DEEP}) {
            refused("settle(" + kind + ")", x -> x.settle(kind), BAD);
        }
    }

    // ---- 18 bound

    @Says("What the CONSTANT would be, were all SETTLED by a SWEEP (nothing changes).")
    static void promise18_untilItIsSettled() {
        due("by ARCS", laid(LATE).bound(ARCS), 3);
        due("by NODES", laid(LATE).bound(NODES), 2);
        due("of nothing", laid("v2;v2;").bound(DIRECTED), 0);
        due("of TOPS", hopeless().bound(NODES), 3);
    }

    /** Found by a search: the CONSTANT still grows in the 22nd sweep of arcs; too long by hand, the numbers are Model's. */
    private static SoftCosts growing() {
        SoftCosts x = laid("t24;v4;v3;v3;v3;v3;v3;b2,3,3;b1,4,1;b2,5,4;b0,1,3;b0,5,5;b3,4,3;b2,4,12;b1,5,8;b4,5,21;"
            + "c8,0,2,6;c2,2,2,5;c4,3,0,1;c0,1,1,16;c3,1,1,1;c5,2,1,18;c0,1,0,20;c7,1,2,14;c2,1,0,2;c4,2,0,15;c4,2,1,9;");
        int[][] more = {{0, 3, 20}, {5, 0, 2}, {0, 1, 22}, {1, 0, 18}, {1, 2, 16}, {5, 2, 1}, {2, 2, 9}, {0, 0, 15},
            {4, 2, 2}, {5, 1, 11}, {3, 0, 14}};
        for (int[] m : more) {
            x.grow(m[0], m[1], m[2]);
        }
        return x;
    }

    @Says({"What the CONSTANT would be, were all SETTLED by a SWEEP (nothing changes).", "or 20 are done."})
    static void promise18_twentyAtMost() {
        SoftCosts x = growing();
        due("bound", x.bound(ARCS), 22);
        x.sweep(ARCS, 1);
        due("bound behind one, which is that of 21", x.bound(ARCS), 22);
        x.sweep(ARCS, 9);
        x.sweep(ARCS, 8);
        due("behind 19", x.sweep(ARCS, 1), 21);
        due("behind 20", x.sweep(ARCS, 1), 22);
        due("behind 21", x.sweep(ARCS, 1), 22);
        due("behind 22", x.sweep(ARCS, 1), 23);
    }

    @Says("What the CONSTANT would be, were all SETTLED by a SWEEP (nothing changes).")
    static void promise18_nothingChanges() {
        for (int kind = 0; kind < 3; kind++) {
            int asked = kind;
            SoftCosts x = busy();
            x.settle(kind);
            leaves(Edges::busy, "bound(" + kind + ")", y -> y.bound(asked), x.count(3));
            leaves(() -> laid(LATE), "bound of LATE", y -> y.bound(asked), kind == 0 ? 2 : 3);
        }
    }

    @Says("What the CONSTANT would be, were all SETTLED by a SWEEP (nothing changes).")
    static void promise18_ofCostsAsTheyAreNow() {
        SoftCosts x = laid("t9;v2;u0,0,1;u0,1,2;");
        due("as laid", x.bound(NODES), 1);
        x.grow(0, 0, 5);
        due("behind grow", x.bound(NODES), 2);
        x.undo();
        due("behind undo", x.bound(NODES), 1);
        x.raise(0, 1);
        due("behind raise", x.bound(NODES), 1);
    }

    @Says({"BAD.", "SWEEPS 0 to 2)."})
    static void promise18_kindsThatThereAreNot() {
        for (int kind : new int[] {-1, 3, FAR, DEEP}) {
            refused("bound(" + kind + ")", x -> x.bound(kind), BAD);
        }
    }
}
