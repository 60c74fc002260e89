/** Each promise of the document, with answers worked out by hand from its words. */
public final class PromiseTest {
    private static final int BAD = -1, NO = -2, FULL = -3, NONE = -4;
    private static final int FAR = Integer.MAX_VALUE;
    private static final int DEEP = Integer.MIN_VALUE;

    /** SINGLE costs 3 1 and 0 0, a TABLE with 4 for like VALUES: TOTALS 7 3 1 5. */
    private static final String TWO = "t10;v2;v2;u0,0,3;u0,1,1;b0,1,4;";

    /** SINGLE costs 0 0 and 2 5, a TABLE with 3 for like VALUES. */
    private static final String SLOPE = "t10;v2;v2;u1,0,2;u1,1,5;b0,1,3;";

    /** SINGLE costs 6 0 and 0 0, the first being TOP, a TABLE with 2 for like VALUES. */
    private static final String CLOSED = "t6;v2;v2;u0,0,6;b0,1,2;";

    /** SINGLE costs 3 0 and 4 2, no TABLE. */
    private static final String LOOSE = "t5;v2;v2;u0,0,3;u1,0,4;u1,1,2;";

    /** By NAME 2 a VALUE of NAME 0 is SHUT in a second sweep of arcs, by which NAME 1 is raised in a third. */
    private static final String LATE = "t5;v2;v2;v2;u0,0,3;u1,0,1;u2,0,2;u2,1,2;b0,1,0;c0,1,1,1;";

    /** Every CHOICE costs TOP. */
    private static final String HOPELESS = "t3;v2;v2;u0,0,3;u0,1,5;b0,1,1;";

    private static final Check CHECK = new Check();

    public static void main(String[] args) {
        newObject();
        write();
        wipe();
        fault();
        faultOfNumbers();
        faultOfTooMany();
        lay();
        layBoundsCosts();
        layOfLess();
        name();
        single();
        table();
        pair();
        grow();
        choose();
        total();
        project();
        extend();
        raise();
        movesAtTop();
        sweepNodes();
        sweepArcs();
        sweepDirected();
        sweepDirectedAtTop();
        sweepArguments();
        settle();
        settleAtMostTwenty();
        bound();
        undo();
        undoOfAll();
        best();
        next();
        backbone();
        with();
        without();
        tries();
        count();
        CHECK.end();
    }

    private static void due(String what, long got, long want) {
        CHECK.due(what, got, want);
    }

    private static void tell(SoftCosts x, String text) {
        for (int k = 0; k < text.length(); k++) {
            x.write(text.charAt(k));
        }
    }

    private static SoftCosts laid(String text) {
        SoftCosts x = new SoftCosts();
        tell(x, text);
        if (x.lay() < 1) {
            CHECK.holds("lay of " + text, false);
        }
        return x;
    }

    private static void singles(String what, SoftCosts x, int i, int... want) {
        due(what + ": VALUES of " + i, x.name(i, 0), want.length);
        for (int a = 0; a < want.length; a++) {
            due(what + ": single(" + i + "," + a + ")", x.single(i, a), want[a]);
        }
    }

    /** The PAIRS of a TABLE of two VALUES each, as 00 01 10 11. */
    private static void pairs(String what, SoftCosts x, int t, int... want) {
        for (int k = 0; k < 4; k++) {
            due(what + ": pair(" + t + "," + k / 2 + "," + k % 2 + ")", x.pair(t, k / 2, k % 2), want[k]);
        }
    }

    private static void newObject() {
        SoftCosts x = new SoftCosts();
        due("new: THE TEXT", x.count(6), 0);
        due("new: NAMES", x.count(0), 4);
        due("new: TABLES", x.count(1), 4);
        due("new: TOP", x.count(2), 20);
        due("new: CONSTANT", x.count(3), 0);
        due("new: UNDONE", x.count(5), 0);
        singles("new", x, 0, 2, 0, 0);
        singles("new", x, 1, 0, 0, 1);
        singles("new", x, 2, 0, 0);
        singles("new", x, 3, 0, 4, 0);
        pairs("new", x, 1, 3, 0, 0, 3);
        due("new: c1,2,1,6", x.pair(1, 2, 1), 6);
        due("new: c3,0,2,4", x.pair(3, 0, 2), 4);
        due("new: CHOICE", x.choose(0, 0), NO);
        due("BAD", SoftCosts.BAD, -1);
        due("NO", SoftCosts.NO, -2);
        due("FULL", SoftCosts.FULL, -3);
        due("NONE", SoftCosts.NONE, -4);
    }

    private static void write() {
        SoftCosts x = new SoftCosts();
        due("write(31)", x.write(31), BAD);
        due("write(127)", x.write(127), BAD);
        due("write(-1)", x.write(-1), BAD);
        due("write(far)", x.write(FAR), BAD);
        due("write(deep)", x.write(DEEP), BAD);
        due("write(32)", x.write(32), 1);
        due("write(126)", x.write(126), 2);
        for (int k = 3; k <= 200; k++) {
            due("write of letter " + k, x.write('v'), k);
        }
        due("write into a full text", x.write('v'), FULL);
        due("BAD comes ahead of FULL", x.write(200), BAD);
        due("a full text's length", x.count(6), 200);
    }

    private static void wipe() {
        SoftCosts x = new SoftCosts();
        due("wipe of nothing", x.wipe(), 0);
        tell(x, "v2;");
        due("wipe", x.wipe(), 3);
        due("wipe again", x.wipe(), 0);
        due("text behind wipe", x.count(6), 0);
        tell(x, "t9");
        due("written behind wipe", x.fault(), 0);
        due("costs behind wipe", x.count(0), 4);
        for (int k = 0; k < 300; k++) {
            x.write('v');
        }
        due("wipe of a full text", x.wipe(), 200);
    }

    private static void faultOf(String text, int want) {
        SoftCosts x = new SoftCosts();
        tell(x, text);
        due("fault of " + text, x.fault(), want);
        due("lay of " + text, x.lay() > 0 ? 1 : 0, want == NONE && text.indexOf('v') >= 0 ? 1 : 0);
        due("text behind lay of " + text, x.count(6), text.length());
    }

    private static void fault() {
        faultOf("", NONE);
        faultOf(";", 0);
        faultOf(" ", 0);
        faultOf("v2;;", 3);
        faultOf("v2; v2;", 3);
        faultOf("v2;v2", 3);
        faultOf("v2;x2;", 3);
        faultOf("V2;", 0);
        faultOf("v;", 0);
        faultOf("v2,;", 0);
        faultOf("v2,2;", 0);
        faultOf("v2;u0,0;", 3);
        faultOf("v2;u0,0,;", 3);
        faultOf("v2;u0,0,1,1;", 3);
        faultOf("v2;u0,,1;", 3);
        faultOf("v2;u0;0,1;", 3);
        faultOf("v2;v2;b0,1;", 6);
        faultOf("v2;v2;b0,1,3;c0,0,0;", 13);
        faultOf("v2;v2;b0,1,3;c0,0,0,3;", NONE);
        faultOf("v2;v2;b0,1,3;c0,0,0,3,3;", 13);
        faultOf("v2;v9;v9;", 3);
        SoftCosts x = new SoftCosts();
        tell(x, "v3;t7;");
        due("fault lays nothing", x.fault(), NONE);
        due("NAMES behind fault", x.count(0), 4);
        due("TOP behind fault", x.count(2), 20);
    }

    private static void faultOfNumbers() {
        faultOf("t0;", 0);
        faultOf("t00;", 0);
        faultOf("t1;v2;", NONE);
        faultOf("t01;v2;", NONE);
        faultOf("t99;v2;", NONE);
        faultOf("t100;", 0);
        faultOf("t1;t2;v2;", NONE);
        faultOf("v1;", 0);
        faultOf("v2;", NONE);
        faultOf("v04;", NONE);
        faultOf("v5;", 0);
        faultOf("v-2;", 0);
        faultOf("v2;u0,0,99;", NONE);
        faultOf("v2;u0,0,100;", 3);
        faultOf("v2;u00,01,00;", NONE);
        faultOf("v2;u0,2,1;", 3);
        faultOf("v2;u1,0,1;", 3);
        faultOf("u0,0,1;v2;", 0);
        faultOf("v2;v3;b0,1,5;c0,1,2,5;", NONE);
        faultOf("v2;v3;b0,1,5;c0,2,1,5;", 13);
        faultOf("v2;v3;b0,1,5;c0,1,3,5;", 13);
        faultOf("v2;v3;b0,1,5;c1,0,0,5;", 13);
        faultOf("v2;v3;c0,0,0,5;b0,1,5;", 6);
        faultOf("v2;v3;b1,0,5;", 6);
        faultOf("v2;v3;b1,1,5;", 6);
        faultOf("v2;v3;b0,2,5;", 6);
        faultOf("v2;b0,1,5;v3;", 3);
    }

    private static void faultOfTooMany() {
        faultOf("v2;v2;v2;v2;v2;v2;", NONE);
        faultOf("v2;v2;v2;v2;v2;v2;v2;", 18);
        faultOf("v2;v2;b0,1,5;b0,1,5;", 13);
        faultOf("v2;v2;v2;b0,1,5;b0,2,5;b1,2,5;b0,2,5;", 30);
        String nine = "v2;v2;v2;v2;v2;b0,1,1;b0,2,1;b0,3,1;b0,4,1;b1,2,1;b1,3,1;b1,4,1;b2,3,1;b2,4,1;";
        faultOf(nine, NONE);
        faultOf(nine + "b3,4,1;", nine.length());
        faultOf(nine + "c8,1,1,1;", NONE);
        faultOf(nine + "c9,1,1,1;", nine.length());
    }

    private static void lay() {
        SoftCosts x = new SoftCosts();
        due("lay of nothing", x.lay(), NO);
        tell(x, "t9;");
        due("lay without a NAME", x.lay(), NO);
        due("TOP behind no lay", x.count(2), 20);
        tell(x, "v2;v3;v4;");
        x.choose(0, 2);
        x.grow(0, 0, 1);
        tell(x, "?");
        due("lay of a FAULT", x.lay(), NO);
        due("CHOICE behind no lay", x.choose(0, 2), NO);
        due("UNDONE behind no lay", x.count(5), 1);
        due("single behind no lay", x.single(0, 0), 3);
        x.wipe();
        tell(x, "v2;v3;v4;");
        due("lay", x.lay(), 3);
        due("the text stays", x.count(6), 9);
        due("TOP without t", x.count(2), 20);
        due("UNDONE behind lay", x.count(5), 0);
        due("undo behind lay", x.undo(), NO);
        due("CHOICE behind lay", x.choose(0, 0), NO);
        due("TABLES behind lay", x.count(1), 0);
        x.raise(0, 1);
        x.grow(1, 1, 4);
        due("lay again", x.lay(), 3);
        due("costs behind lay again", x.single(1, 1), 0);
        SoftCosts y = laid("v2;u0,0,4;u0,1,4;");
        y.raise(0, 4);
        due("CONSTANT ahead of lay", y.count(3), 4);
        due("lay of one NAME", y.lay(), 1);
        due("CONSTANT behind lay", y.count(3), 0);
        due("best of one NAME", y.best(-1), 4);
    }

    private static void layBoundsCosts() {
        SoftCosts x = laid("v3;v2;u0,0,50;u0,1,7;u0,1,8;b0,1,60;c0,2,1,61;c0,0,1,3;c0,0,1,4;t99;t12;");
        due("the last TOP counts", x.count(2), 12);
        singles("bounded", x, 0, 12, 8, 0);
        pairs("bounded", x, 0, 12, 4, 0, 12);
        due("bounded: pair(0,2,0)", x.pair(0, 2, 0), 0);
        due("bounded: pair(0,2,1)", x.pair(0, 2, 1), 12);
        SoftCosts y = laid("t1;v2;u0,0,9;");
        due("TOP 1", y.single(0, 0), 1);
        due("TOP 1: SHUT", y.name(0, 2), 1);
    }

    private static void layOfLess() {
        SoftCosts x = laid("t9;v4;v4;v4;u1,3,5;b0,1,3;b1,2,4;");
        x.wipe();
        tell(x, "v2;v2;b0,1,1;");
        due("lay of less", x.lay(), 2);
        singles("lay of less", x, 1, 0, 0);
        pairs("lay of less", x, 0, 1, 0, 0, 1);
        due("a TABLE that is gone", x.table(1, 0), BAD);
        due("a PAIR that is gone", x.pair(1, 0, 0), BAD);
        due("a VALUE that is gone", x.single(1, 3), BAD);
        due("a NAME that is gone", x.single(2, 0), BAD);
        due("choose of it", x.choose(2, 1), BAD);
        due("grow of it", x.grow(2, 0, 1), BAD);
        due("with it", x.with(2, 0), BAD);
        due("best of it", x.best(2), BAD);
        due("without a TABLE that is gone", x.without(1), BAD);
        due("TOP that is gone", x.count(2), 20);
        x.wipe();
        tell(x, "v2;v2;v4;v4;b2,3,2;u2,3,7;v9;");
        due("FAULT behind many", x.fault(), 26);
        due("a NAME of a FAULT", x.single(2, 0), BAD);
        x.wipe();
        tell(x, "v2;");
        due("lay behind a FAULT", x.lay(), 1);
        due("a NAME that never was laid", x.single(2, 3), BAD);
        due("one of its own", x.single(0, 1), 0);
    }

    private static void name() {
        SoftCosts x = laid("t10;v4;v2;v3;u0,0,10;u0,1,4;u0,2,7;u0,3,5;b0,1,1;b1,2,1;b0,2,1;");
        due("name(0,0)", x.name(0, 0), 4);
        due("name(0,1)", x.name(0, 1), 5);
        due("name(0,2)", x.name(0, 2), 1);
        due("name(0,3)", x.name(0, 3), 4);
        due("name(1,0)", x.name(1, 0), 2);
        due("name(1,1)", x.name(1, 1), 3);
        due("name(2,1)", x.name(2, 1), 6);
        due("name(2,3)", x.name(2, 3), 0);
        due("raise", x.raise(0, 4), 4);
        due("SHUT with the CONSTANT", x.name(0, 2), 1);
        x.grow(0, 2, 3);
        due("SHUT when the SUM is TOP", x.name(0, 2), 5);
        due("the least behind raise", x.name(0, 3), 0);
        due("name(3,0)", x.name(3, 0), BAD);
        due("name(-1,0)", x.name(-1, 0), BAD);
        due("name(0,-1)", x.name(0, -1), BAD);
        due("name(0,4)", x.name(0, 4), BAD);
        due("name(far,far)", x.name(FAR, FAR), BAD);
        due("name(deep,0)", x.name(DEEP, 0), BAD);
    }

    private static void single() {
        SoftCosts x = laid("v2;v4;u1,3,7;u0,1,2;");
        singles("single", x, 0, 0, 2);
        singles("single", x, 1, 0, 0, 0, 7);
        due("single(0,2)", x.single(0, 2), BAD);
        due("single(1,4)", x.single(1, 4), BAD);
        due("single(0,-1)", x.single(0, -1), BAD);
        due("single(2,0)", x.single(2, 0), BAD);
        due("single(-1,0)", x.single(-1, 0), BAD);
        due("single(far,far)", x.single(FAR, FAR), BAD);
        due("single(deep,deep)", x.single(DEEP, DEEP), BAD);
    }

    private static void table() {
        SoftCosts x = laid("v2;v2;v3;v2;b1,3,4;b0,2,0;c0,0,1,2;c0,1,0,3;c1,1,2,9;");
        due("table(0,0)", x.table(0, 0), 1);
        due("table(0,1)", x.table(0, 1), 3);
        due("table(0,2)", x.table(0, 2), 2);
        due("table(0,3)", x.table(0, 3), 4);
        due("table(1,0)", x.table(1, 0), 0);
        due("table(1,1)", x.table(1, 1), 2);
        due("table(1,2)", x.table(1, 2), 0);
        due("table(1,3)", x.table(1, 3), 9);
        due("table(2,0)", x.table(2, 0), BAD);
        due("table(-1,0)", x.table(-1, 0), BAD);
        due("table(0,-1)", x.table(0, -1), BAD);
        due("table(0,4)", x.table(0, 4), BAD);
        due("table(far,deep)", x.table(FAR, DEEP), BAD);
    }

    private static void pair() {
        SoftCosts x = laid("v2;v3;b0,1,4;c0,1,2,6;c0,0,1,2;c0,1,1,0;");
        due("pair(0,0,0)", x.pair(0, 0, 0), 4);
        due("pair(0,0,1)", x.pair(0, 0, 1), 2);
        due("pair(0,0,2)", x.pair(0, 0, 2), 0);
        due("pair(0,1,0)", x.pair(0, 1, 0), 0);
        due("pair(0,1,1)", x.pair(0, 1, 1), 0);
        due("pair(0,1,2)", x.pair(0, 1, 2), 6);
        due("pair(0,2,0)", x.pair(0, 2, 0), BAD);
        due("pair(0,0,3)", x.pair(0, 0, 3), BAD);
        due("pair(0,-1,0)", x.pair(0, -1, 0), BAD);
        due("pair(0,0,-1)", x.pair(0, 0, -1), BAD);
        due("pair(1,0,0)", x.pair(1, 0, 0), BAD);
        due("pair(-1,0,0)", x.pair(-1, 0, 0), BAD);
        due("pair(far,far,far)", x.pair(FAR, FAR, FAR), BAD);
    }

    private static void grow() {
        SoftCosts x = laid(TWO);
        due("grow(0,0,2)", x.grow(0, 0, 2), 5);
        due("single behind grow", x.single(0, 0), 5);
        due("grow to TOP", x.grow(0, 0, 5), 10);
        due("grow at TOP", x.grow(0, 0, 1), 10);
        due("grow beyond TOP", x.grow(1, 1, 99), 10);
        due("changes of grow", x.count(5), 4);
        due("grow(0,0,0)", x.grow(0, 0, 0), BAD);
        due("grow(0,0,100)", x.grow(0, 0, 100), BAD);
        due("grow(0,0,-1)", x.grow(0, 0, -1), BAD);
        due("grow(0,2,1)", x.grow(0, 2, 1), BAD);
        due("grow(2,0,1)", x.grow(2, 0, 1), BAD);
        due("grow(0,0,far)", x.grow(0, 0, FAR), BAD);
        due("changes of BAD ones", x.count(5), 4);
    }

    private static void choose() {
        SoftCosts x = laid("v2;v4;");
        due("choose(1,0)", x.choose(1, 0), NO);
        due("choose(1,3)", x.choose(1, 3), 0);
        due("choose(1,2)", x.choose(1, 2), 3);
        due("choose(1,2) again", x.choose(1, 2), NO);
        due("choose(0,1)", x.choose(0, 1), 0);
        due("choose(0,2)", x.choose(0, 2), BAD);
        due("choose(2,0)", x.choose(2, 0), BAD);
        due("choose(-1,0)", x.choose(-1, 0), BAD);
        due("choose(0,-1)", x.choose(0, -1), BAD);
        due("choose(far,far)", x.choose(FAR, FAR), BAD);
        due("choose is no change", x.undo(), NO);
        x.grow(0, 0, 1);
        x.choose(1, 1);
        x.undo();
        due("undo leaves the CHOICE", x.choose(1, 1), NO);
    }

    private static void total() {
        SoftCosts x = laid(TWO);
        due("total 00", x.total(), 7);
        x.choose(1, 1);
        due("total 01", x.total(), 3);
        x.choose(0, 1);
        due("total 11", x.total(), 5);
        x.choose(1, 0);
        due("total 10", x.total(), 1);
        x.raise(0, 1);
        due("total with the CONSTANT", x.total(), 1);
        x.grow(0, 1, 9);
        due("total at TOP", x.total(), 10);
        x.grow(1, 0, 9);
        due("total above TOP", x.total(), 10);
    }

    private static void project() {
        SoftCosts x = laid("t10;v2;v3;u0,0,1;b0,1,4;c0,0,1,3;c0,0,2,2;c0,1,1,10;c0,1,0,5;c0,1,2,6;");
        due("project by more than the least", x.project(0, 0, 0, 3), NO);
        due("project by the least", x.project(0, 0, 0, 2), 3);
        due("pair(0,0,0)", x.pair(0, 0, 0), 2);
        due("pair(0,0,1)", x.pair(0, 0, 1), 1);
        due("pair(0,0,2)", x.pair(0, 0, 2), 0);
        due("the other VALUE's PAIRS stay", x.pair(0, 1, 0), 5);
        due("project to the other side", x.project(0, 1, 1, 1), 1);
        due("a PAIR of it", x.pair(0, 0, 1), 0);
        due("a PAIR of it at TOP", x.pair(0, 1, 1), 10);
        due("PAIRS of others", x.pair(0, 1, 2), 6);
        due("project of nothing", x.project(0, 1, 2, 1), NO);
        due("changes", x.count(5), 2);
        due("project(1,0,0,1)", x.project(1, 0, 0, 1), BAD);
        due("project(-1,0,0,1)", x.project(-1, 0, 0, 1), BAD);
        due("project(0,2,0,1)", x.project(0, 2, 0, 1), BAD);
        due("project(0,-1,0,1)", x.project(0, -1, 0, 1), BAD);
        due("project(0,0,2,1)", x.project(0, 0, 2, 1), BAD);
        due("project(0,1,2,99)", x.project(0, 1, 2, 99), NO);
        due("project(0,1,3,1)", x.project(0, 1, 3, 1), BAD);
        due("project(0,0,-1,1)", x.project(0, 0, -1, 1), BAD);
        due("project(0,0,0,0)", x.project(0, 0, 0, 0), BAD);
        due("project(0,0,0,100)", x.project(0, 0, 0, 100), BAD);
        due("project(far..)", x.project(FAR, DEEP, FAR, DEEP), BAD);
        due("no change by these", x.count(5), 2);
    }

    private static void extend() {
        SoftCosts x = laid("t10;v2;v3;u0,1,4;u1,2,7;b0,1,4;c0,1,0,8;");
        due("extend by too much", x.extend(0, 0, 1, 5), NO);
        due("extend(0,0,1,3)", x.extend(0, 0, 1, 3), 1);
        due("pair(0,1,0)", x.pair(0, 1, 0), 10);
        due("pair(0,1,1)", x.pair(0, 1, 1), 7);
        due("pair(0,1,2)", x.pair(0, 1, 2), 3);
        due("the other VALUE's PAIRS stay", x.pair(0, 0, 0), 4);
        due("extend(0,1,2,7)", x.extend(0, 1, 2, 7), 0);
        due("pair(0,0,2)", x.pair(0, 0, 2), 7);
        due("pair(0,1,2) again", x.pair(0, 1, 2), 10);
        due("pair(0,1,1) again", x.pair(0, 1, 1), 7);
        due("extend of nothing", x.extend(0, 1, 2, 1), NO);
        due("changes", x.count(5), 2);
        due("extend(1,0,0,1)", x.extend(1, 0, 0, 1), BAD);
        due("extend(-1,0,0,1)", x.extend(-1, 0, 0, 1), BAD);
        due("extend(0,2,0,1)", x.extend(0, 2, 0, 1), BAD);
        due("extend(0,-1,0,1)", x.extend(0, -1, 0, 1), BAD);
        due("extend(0,0,2,1)", x.extend(0, 0, 2, 1), BAD);
        due("extend(0,1,3,1)", x.extend(0, 1, 3, 1), BAD);
        due("extend(0,0,0,0)", x.extend(0, 0, 0, 0), BAD);
        due("extend(0,0,0,100)", x.extend(0, 0, 0, 100), BAD);
        due("extend(far..)", x.extend(FAR, DEEP, FAR, DEEP), BAD);
        due("no change by these", x.count(5), 2);
    }

    private static void raise() {
        SoftCosts x = laid("t10;v3;u0,0,4;u0,1,6;u0,2,10;");
        due("raise by too much", x.raise(0, 5), NO);
        due("raise(0,3)", x.raise(0, 3), 3);
        singles("raised", x, 0, 1, 3, 10);
        due("raise(0,1)", x.raise(0, 1), 4);
        due("raise of nothing", x.raise(0, 1), NO);
        due("changes", x.count(5), 2);
        due("raise(1,1)", x.raise(1, 1), BAD);
        due("raise(-1,1)", x.raise(-1, 1), BAD);
        due("raise(0,0)", x.raise(0, 0), BAD);
        due("raise(0,100)", x.raise(0, 100), BAD);
        due("raise(0,99)", x.raise(0, 99), NO);
        due("raise(far,far)", x.raise(FAR, FAR), BAD);
        due("no change by these", x.count(5), 2);
    }

    private static void movesAtTop() {
        SoftCosts x = laid("t5;v2;v2;u0,0,5;u0,1,5;u1,0,5;b0,1,0;c0,0,0,5;c0,0,1,5;");
        due("x above TOP is more than a cost of TOP", x.project(0, 0, 0, 6), NO);
        due("project of TOP", x.project(0, 0, 0, 5), 5);
        pairs("projected at TOP", x, 0, 5, 5, 0, 0);
        due("extend above TOP", x.extend(0, 1, 0, 6), NO);
        due("extend of TOP", x.extend(0, 1, 0, 2), 5);
        pairs("extended at TOP", x, 0, 5, 5, 2, 0);
        due("raise above TOP", x.raise(0, 6), NO);
        due("raise at TOP", x.raise(0, 4), 4);
        singles("raised at TOP", x, 0, 5, 5);
        due("raise to TOP", x.raise(0, 4), 5);
        due("all is SHUT", x.count(4), 4);
    }

    private static void sweepNodes() {
        SoftCosts x = laid(TWO);
        due("nodes", x.sweep(0, 1), 1);
        singles("nodes", x, 0, 2, 0);
        SoftCosts y = laid(LOOSE);
        due("nodes of LOOSE", y.sweep(0, 1), 2);
        due("SHUT by the CONSTANT as it was then", y.single(0, 0), 3);
        due("SHUT now", y.name(0, 2), 1);
        singles("nodes of LOOSE", y, 1, 2, 0);
        due("nodes again", y.sweep(0, 1), 2);
        due("TOP now", y.single(0, 0), 5);
        due("two in one", laid(LOOSE).sweep(0, 2), 2);
        SoftCosts z = laid("t5;v2;v2;u0,0,2;u0,1,3;u1,0,3;");
        due("a NAME behind is SHUT by it", z.sweep(0, 1), 2);
        singles("raised ahead", z, 0, 0, 1);
        singles("SHUT behind", z, 1, 5, 0);
        SoftCosts h = laid(HOPELESS);
        due("nodes of HOPELESS", h.sweep(0, 1), 3);
        singles("HOPELESS", h, 1, 3, 3);
    }

    private static void sweepArcs() {
        SoftCosts x = laid(CLOSED);
        due("arcs of CLOSED", x.sweep(1, 1), 0);
        pairs("arcs of CLOSED", x, 0, 6, 6, 0, 0);
        singles("arcs of CLOSED", x, 0, 6, 0);
        singles("arcs of CLOSED", x, 1, 0, 2);
        // VALUES of I come ahead of those of J: all goes to the lower NAME
        SoftCosts y = laid("t20;v2;v2;b0,1,3;c0,0,1,5;c0,1,0,4;");
        due("arcs to the lower NAME", y.sweep(1, 1), 3);
        singles("arcs to the lower NAME", y, 0, 0, 0);
        singles("arcs to the lower NAME", y, 1, 0, 0);
        pairs("arcs to the lower NAME", y, 0, 0, 2, 1, 0);
        // TABLE 0 ahead of TABLE 1, each of which could give NAME 0 what it needs
        SoftCosts z = laid("v2;v2;v2;b0,1,0;b1,2,0;c0,0,0,2;c0,0,1,2;c1,1,0,3;c1,1,1,3;");
        due("arcs of two TABLES", z.sweep(1, 1), 0);
        singles("arcs of two TABLES", z, 0, 2, 0);
        singles("arcs of two TABLES", z, 1, 0, 3);
    }

    private static void sweepDirected() {
        SoftCosts x = laid(SLOPE);
        due("directed", x.sweep(2, 1), 2);
        singles("directed", x, 0, 3, 0);
        singles("directed", x, 1, 0, 0);
        pairs("directed", x, 0, 0, 0, 0, 6);
        due("arcs of SLOPE alone", laid(SLOPE).sweep(1, 1), 2);
        // the last NAME first: what NAME 2 gives to NAME 1 goes on to NAME 0 in the same SWEEP
        SoftCosts y = laid("v2;v2;v2;u2,0,4;u2,1,4;u0,0,1;b0,1,0;b1,2,0;c0,1,0,2;c0,1,1,2;");
        due("directed by a chain", y.sweep(2, 1), 5);
        singles("directed by a chain", y, 0, 0, 1);
        singles("directed by a chain", y, 1, 0, 0);
        singles("directed by a chain", y, 2, 0, 0);
        due("its TABLE 0", y.table(0, 3), 0);
    }

    private static void sweepDirectedAtTop() {
        // P is TOP for VALUE 0 (by 4 and 2, 2 and 4), E is what is lacking, not TOP
        SoftCosts x = laid("t6;v2;v2;u1,0,2;u1,1,4;b0,1,0;c0,0,0,4;c0,0,1,2;");
        due("directed to TOP", x.sweep(2, 1), 2);
        singles("directed to TOP", x, 0, 6, 0);
        singles("directed to TOP", x, 1, 0, 0);
        pairs("directed to TOP", x, 0, 6, 6, 0, 2);
        SoftCosts y = laid("t6;v2;v2;u0,0,6;u1,0,1;u1,1,2;b0,1,0;");
        due("directed with a VALUE at TOP", y.sweep(2, 1), 1);
        pairs("directed with a VALUE at TOP", y, 0, 6, 6, 0, 0);
        singles("directed with a VALUE at TOP", y, 0, 6, 0);
        singles("directed with a VALUE at TOP", y, 1, 0, 1);
    }

    private static void sweepArguments() {
        SoftCosts x = laid(TWO);
        due("sweep(3,1)", x.sweep(3, 1), BAD);
        due("sweep(-1,1)", x.sweep(-1, 1), BAD);
        due("sweep(0,0)", x.sweep(0, 0), BAD);
        due("sweep(0,10)", x.sweep(0, 10), BAD);
        due("sweep(far,deep)", x.sweep(FAR, DEEP), BAD);
        due("no change by these", x.count(5), 0);
        due("sweep(0,9)", x.sweep(0, 9), 1);
        due("one change", x.count(5), 1);
        due("undo of nine", x.undo(), 0);
        singles("undo of nine", x, 0, 3, 1);
    }

    private static void settle() {
        SoftCosts x = laid(LOOSE);
        due("settle of LOOSE", x.settle(0), 2);
        singles("settled", x, 0, 5, 0);
        due("settle again", x.settle(0), 0);
        due("both are changes", x.count(5), 2);
        due("settle of SLOPE", laid(SLOPE).settle(2), 1);
        SoftCosts y = laid(LATE);
        due("settle of LATE", y.settle(1), 3);
        due("CONSTANT behind it", y.count(3), 3);
        due("one of its sweeps", laid(LATE).sweep(1, 1), 2);
        // all costs but the CONSTANT stay: the CONSTANT is a cost, too
        due("settle of TOPS", laid("t4;v2;v2;u0,0,4;u0,1,4;u1,0,4;u1,1,4;").settle(0), 1);
        due("settle(3)", x.settle(3), BAD);
        due("settle(-1)", x.settle(-1), BAD);
        due("settle(far)", x.settle(FAR), BAD);
        due("no change by these", x.count(5), 2);
    }

    /** Found by a search: sweeps of arcs change something 22 times here. */
    private static void settleAtMostTwenty() {
        SoftCosts x = laid("t24;v4;v3;v3;v3;v3;v3;b2,3,3;b1,4,1;b2,5,4;b0,1,1;b0,5,5;b3,4,17;b2,4,0;b1,5,24;b4,5,24;"
            + "c7,1,2,14;c4,2,0,15;c4,3,0,1;c5,1,2,1;c0,1,0,24;c5,2,1,1;c2,0,1,2;c2,1,0,1;c8,0,0,0;c8,0,1,2;c4,0,1,4;");
        int[][] more = {{3, 2, 8}, {1, 2, 16}, {4, 0, 7}, {5, 0, 2}, {2, 1, 1}, {5, 1, 24}, {1, 0, 18}, {5, 2, 1},
            {0, 0, 17}, {4, 2, 2}, {0, 1, 22}, {2, 2, 15}, {0, 3, 19}};
        for (int[] m : more) {
            x.grow(m[0], m[1], m[2]);
        }
        due("settle in 20", x.settle(1), 20);
        due("settle of what is left", x.settle(1), 2);
        due("settle of nothing", x.settle(1), 0);
    }

    private static void bound() {
        SoftCosts x = laid(SLOPE);
        due("bound(0)", x.bound(0), 2);
        due("bound(1)", x.bound(1), 2);
        due("bound(2)", x.bound(2), 2);
        due("bound changes nothing", x.count(3), 0);
        singles("bound changes nothing", x, 1, 2, 5);
        due("bound is no change", x.undo(), NO);
        due("bound of three sweeps", laid(LATE).bound(1), 3);
        x.grow(1, 0, 1);
        due("bound of costs as they are now", x.bound(0), 3);
        due("bound(3)", x.bound(3), BAD);
        due("bound(-1)", x.bound(-1), BAD);
        due("bound(deep)", x.bound(DEEP), BAD);
    }

    private static void undo() {
        SoftCosts x = laid("t99;v2;");
        due("undo of nothing", x.undo(), NO);
        for (int k = 1; k <= 8; k++) {
            x.grow(0, 0, 1);
            due("changes", x.count(5), Math.min(k, 6));
        }
        for (int k = 5; k >= 0; k--) {
            due("undo", x.undo(), k);
            due("cost behind undo", x.single(0, 0), k + 2);
        }
        due("the seventh", x.undo(), NO);
        due("cost behind the seventh", x.single(0, 0), 2);
        x.grow(0, 1, 5);
        x.grow(0, 0, 5);
        due("undo behind undo", x.undo(), 1);
        singles("undo behind undo", x, 0, 2, 5);
        x.grow(0, 0, 90);
        due("undo of the newer", x.undo(), 1);
        due("undo of the older", x.undo(), 0);
        singles("all undone", x, 0, 2, 0);
    }

    private static void undoOfAll() {
        SoftCosts x = laid(SLOPE);
        x.extend(0, 1, 0, 2);
        x.project(0, 1, 0, 1);
        x.grow(0, 0, 1);
        x.grow(0, 1, 1);
        x.raise(0, 1);
        x.sweep(2, 2);
        due("six of a kind each", x.undo(), 5);
        due("raised still", x.count(3), 1);
        x.undo();
        due("not raised", x.count(3), 0);
        singles("not raised", x, 0, 1, 1);
        x.undo();
        x.undo();
        x.undo();
        pairs("extended still", x, 0, 5, 0, 2, 3);
        due("the last", x.undo(), 0);
        pairs("not extended", x, 0, 3, 0, 0, 3);
        singles("not extended", x, 1, 2, 5);
        x.settle(0);
        due("settled", x.count(3), 2);
        due("undo of settle", x.undo(), 0);
        due("not settled", x.count(3), 0);
        x.sweep(1, 1);
        x.sweep(1, 1);
        due("changes that change nothing", x.count(5), 2);
    }

    private static void best() {
        SoftCosts x = laid(TWO);
        due("best(-1)", x.best(-1), 1);
        due("best(-2)", x.best(-2), 1);
        due("best(0)", x.best(0), 1);
        due("best(1)", x.best(1), 0);
        due("best(2)", x.best(2), BAD);
        due("best(-3)", x.best(-3), BAD);
        due("best(far)", x.best(FAR), BAD);
        due("best(deep)", x.best(DEEP), BAD);
        SoftCosts y = laid("v3;v3;b0,1,1;");
        due("ways", y.best(-2), 6);
        due("the first of several: NAME 0", y.best(0), 0);
        due("the first of several: NAME 1", y.best(1), 1);
        SoftCosts h = laid(HOPELESS);
        due("best(-1) of none", h.best(-1), NONE);
        due("best(-2) of none", h.best(-2), NONE);
        due("best(0) of none", h.best(0), NONE);
        due("best(2) of none", h.best(2), BAD);
        due("best(-3) of none", h.best(-3), BAD);
        x.sweep(0, 1);
        due("best with the CONSTANT", x.best(-1), 1);
        due("all of six NAMES", laid("v4;v4;v4;v4;v4;v4;").best(-2), 4096);
    }

    private static void next() {
        SoftCosts x = laid(TWO);
        due("next(0)", x.next(0), 3);
        due("next(1)", x.next(1), 4);
        x.grow(0, 0, 6);
        due("next(0) is not TOP", x.next(0), 5);
        due("next(1) with TOP", x.next(1), 3);
        x.grow(1, 1, 9);
        due("next(0) of one", x.next(0), NONE);
        due("next(1) of one", x.next(1), 1);
        due("next(2)", x.next(2), BAD);
        due("next(-1)", x.next(-1), BAD);
        due("next(far)", x.next(FAR), BAD);
        SoftCosts h = laid(HOPELESS);
        due("next(0) of none", h.next(0), NONE);
        due("next(1) of none", h.next(1), 0);
        due("next(2) of none", h.next(2), BAD);
        SoftCosts y = laid("v2;v2;");
        due("next(0) of like ones", y.next(0), NONE);
        due("next(1) of like ones", y.next(1), 4);
    }

    private static void backbone() {
        due("backbone of one", laid(TWO).backbone(), 0x12);
        due("backbone of like ones", laid("v2;v2;").backbone(), 0);
        due("backbone of HOPELESS", laid(HOPELESS).backbone(), NONE);
        // NAME 0 is free, NAME 5 is 3
        due("backbone of six", laid("v2;v4;v4;v4;v4;v4;u5,0,1;u5,1,1;u5,2,1;u1,0,1;u1,1,1;u1,3,1;").backbone(),
            (1 << 23) + (1 << 6));
    }

    private static void with() {
        SoftCosts x = laid(TWO);
        due("with(0,0)", x.with(0, 0), 3);
        due("with(0,1)", x.with(0, 1), 1);
        due("with(1,0)", x.with(1, 0), 1);
        due("with(1,1)", x.with(1, 1), 3);
        due("with leaves best", x.best(-1), 1);
        x.grow(0, 0, 7);
        due("with at TOP", x.with(0, 0), NONE);
        due("with(0,2)", x.with(0, 2), BAD);
        due("with(2,0)", x.with(2, 0), BAD);
        due("with(-1,0)", x.with(-1, 0), BAD);
        due("with(0,-1)", x.with(0, -1), BAD);
        due("with(far,far)", x.with(FAR, FAR), BAD);
        due("with of HOPELESS", laid(HOPELESS).with(1, 1), NONE);
        due("with of HOPELESS, BAD", laid(HOPELESS).with(1, 2), BAD);
    }

    private static void without() {
        SoftCosts x = laid("t9;v2;v2;v2;b0,1,9;c0,0,1,4;c0,1,0,9;b1,2,3;c1,1,0,2;c1,0,1,5;");
        due("best with all", x.best(-1), 6);
        due("without(0)", x.without(0), 2);
        due("without(1)", x.without(1), 4);
        due("without leaves best", x.best(-1), 6);
        due("without(2)", x.without(2), BAD);
        due("without(-1)", x.without(-1), BAD);
        due("without(far)", x.without(FAR), BAD);
        due("without of HOPELESS", laid(HOPELESS).without(0), NONE);
        due("without of HOPELESS, BAD", laid(HOPELESS).without(1), BAD);
        SoftCosts y = laid("t2;v2;v2;b0,1,2;c0,0,1,2;c0,1,0,2;");
        due("best of a TABLE of TOPS", y.best(-1), NONE);
        due("without a TABLE of TOPS", y.without(0), 0);
    }

    private static void tries() {
        due("tries of TWO", laid(TWO).tries(), 6);
        due("tries of HOPELESS", laid(HOPELESS).tries(), 2);
        due("tries of one NAME", laid("v3;").tries(), 3);
        due("tries of none better than 0", laid("v2;v2;v2;").tries(), 2 + 2 + 2);
        // VALUE 0: 0 and at least 3 by the TABLE; then (0,0) 3, (0,1) 4; VALUE 1: LOW 2, then (1,0) 2, (1,1) 9
        due("tries with LOW of the PAIRS", laid("v2;v2;b0,1,3;c0,0,1,4;c0,1,0,2;c0,1,1,9;").tries(), 6);
        // VALUE 1 has LOW 3, which is not below the 3 of (0,0)
        due("tries that are left", laid("v2;v2;b0,1,3;c0,0,1,4;c0,1,0,3;c0,1,1,9;").tries(), 4);
        // LOW counts the least of each NAME behind, also of the one after the next
        due("tries with LOW of all NAMES", laid("t4;v2;v2;v2;u0,0,1;u0,1,1;u1,0,1;u1,1,1;u2,0,2;u2,1,2;").tries(), 2);
        due("tries of six", laid("t99;v4;v4;v4;v4;v4;v4;").tries(), 24);
        SoftCosts x = laid(TWO);
        x.tries();
        due("tries again", x.tries(), 6);
        // the CONSTANT counts: with it no LOW is below TOP
        SoftCosts y = laid("t3;v2;v2;u0,0,3;u0,1,3;");
        y.raise(0, 3);
        due("tries with the CONSTANT", y.tries(), 2);
    }

    private static void count() {
        SoftCosts x = laid(CLOSED);
        due("count(0)", x.count(0), 2);
        due("count(1)", x.count(1), 1);
        due("count(2)", x.count(2), 6);
        due("count(3)", x.count(3), 0);
        due("count(4)", x.count(4), 1);
        due("count(5)", x.count(5), 0);
        due("count(6)", x.count(6), CLOSED.length());
        x.grow(1, 0, 2);
        x.grow(1, 1, 1);
        x.raise(1, 1);
        due("count(3) behind raise", x.count(3), 1);
        due("count(5) behind raise", x.count(5), 3);
        x.grow(0, 1, 5);
        due("count(4) behind grow", x.count(4), 2);
        due("count(-1)", x.count(-1), BAD);
        due("count(7)", x.count(7), BAD);
        due("count(far)", x.count(FAR), BAD);
        due("count(deep)", x.count(DEEP), BAD);
    }
}
