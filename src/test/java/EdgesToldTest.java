/** Promises 1 to 5 at their edges: what is told. */
public final class EdgesToldTest extends Edges {
    private static final String FIRST =
        "t20;v3;v3;v2;v3;u0,0,2;u1,2,1;u3,1,4;b0,1,5;b1,2,3;b0,3,7;b2,3,9;c1,2,1,6;c3,0,2,4;";
    private static final String NINE_TABLES =
        "v2;v2;v2;v2;v2;b0,1,1;b0,2,1;b0,3,1;b0,4,1;b1,2,1;b1,3,1;b1,4,1;b2,3,1;b2,4,1;";

    /** 200 letters without FAULT, the last ITEM being the one that counts. */
    private static final String LONGEST = "v02;" + "t10;".repeat(48) + "t11;";

    public static void main(String[] args) {
        run(EdgesToldTest.class);
    }

    private static void faultOf(String text, int want) {
        due("fault of " + text, told(new SoftCosts(), text).fault(), want);
    }

    /** Each text is laid ahead of a change of it by which it is not. */
    private static void laysNot(String text) {
        leaves(() -> {
            SoftCosts x = busy();
            x.wipe();
            return told(x, text);
        }, "lay of " + text, SoftCosts::lay, NO);
    }

    // ---- 1 a new object

    @Says({"As told;",
        "at first t20;v3;v3;v2;v3;u0,0,2;u1,2,1;u3,1,4;b0,1,5;b1,2,3;b0,3,7;b2,3,9;c1,2,1,6;c3,0,2,4;)."})
    static void promise01_theFirstTextIsLaid() {
        SoftCosts x = new SoftCosts();
        due("NAMES", x.count(0), 4);
        due("TABLES", x.count(1), 4);
        due("TOP", x.count(2), 20);
        singles(x, 0, 2, 0, 0);
        singles(x, 1, 0, 0, 1);
        singles(x, 2, 0, 0);
        singles(x, 3, 0, 4, 0);
        pairs(x, 0, "5 0 0/0 5 0/0 0 5");
        pairs(x, 1, "3 0/0 3/0 6");
        pairs(x, 2, "7 0 0/0 7 0/0 0 7");
        pairs(x, 3, "9 0 4/0 9 0");
        SoftCosts y = laid(FIRST);
        y.wipe();
        like("a new object", picture(x), picture(y));
    }

    @Says("THE TEXT is empty.")
    static void promise01_theTextIsEmpty() {
        due("letters", new SoftCosts().count(6), 0);
        due("wipe", new SoftCosts().wipe(), 0);
        due("fault", new SoftCosts().fault(), NONE);
        due("lay", new SoftCosts().lay(), NO);
        due("the first letter", new SoftCosts().write('v'), 1);
    }

    @Says("As told;")
    static void promise01_valueZeroOfEachIsChosenAndNothingUndone() {
        SoftCosts x = new SoftCosts();
        for (int i = 0; i < 4; i++) {
            due("choose(" + i + ",0)", x.choose(i, 0), NO);
        }
        due("CONSTANT", x.count(3), 0);
        due("changes", x.count(5), 0);
        due("undo", x.undo(), NO);
    }

    @Says("As told;")
    static void promise01_objectsHaveNothingInCommon() {
        SoftCosts x = new SoftCosts();
        SoftCosts y = busy();
        y.sweep(DIRECTED, 2);
        y.tries();
        like("an object beside another one", story(x), story(new SoftCosts()));
        like("an object made behind another one", picture(new SoftCosts()), picture(x));
    }

    @Says("An object is used for at most 512 calls after it has been made;")
    static void promise01_all512CallsAreAnswered() {
        SoftCosts x = new SoftCosts();
        for (int k = 0; k < 256; k++) {
            due("grow of call " + 2 * k, x.grow(0, 1, 1), Math.min(20, k + 1));
            due("count of call " + (2 * k + 1), x.count(5), Math.min(6, k + 1));
        }
        SoftCosts y = new SoftCosts();
        for (int k = 0; k < 128; k++) {
            due("write", y.write('v'), 1);
            due("fault", y.fault(), 0);
            due("wipe", y.wipe(), 1);
            due("choose", y.choose(3, (k + 1) % 3), k % 3);
        }
    }

    // ---- 2 write

    @Says("A letter (32 to 126, as in ASCII) comes behind THE TEXT: how long it is.")
    static void promise02_theLowestLetterIs32() {
        due("write(32)", new SoftCosts().write(32), 1);
        refused("write(31)", x -> x.write(31), BAD);
    }

    @Says("A letter (32 to 126, as in ASCII) comes behind THE TEXT: how long it is.")
    static void promise02_theHighestLetterIs126() {
        due("write(126)", new SoftCosts().write(126), 1);
        refused("write(127)", x -> x.write(127), BAD);
    }

    @Says("A letter (32 to 126, as in ASCII) comes behind THE TEXT: how long it is.")
    static void promise02_allLettersBetweenAreTaken() {
        SoftCosts x = new SoftCosts();
        for (int letter = 32; letter <= 126; letter++) {
            due("write(" + letter + ")", x.write(letter), letter - 31);
        }
    }

    @Says("BAD;")
    static void promise02_numbersThatAreNoLetters() {
        for (int letter : new int[] {0, -1, 10, 128, 255, 256 + 'v', 65536 + 'v', -256 + 'v', FAR, DEEP}) {
            refused("write(" + letter + ")", x -> x.write(letter), BAD);
        }
    }

    @Says("A letter (32 to 126, as in ASCII) comes behind THE TEXT: how long it is.")
    static void promise02_lettersComeOneBehindTheOther() {
        SoftCosts x = laid("v2;v3;v4;");
        due("first NAME", x.name(0, 0), 2);
        due("second NAME", x.name(1, 0), 3);
        due("third NAME", x.name(2, 0), 4);
    }

    @Says({"THE TEXT is letters (200 at most).", "FULL: it has 200."})
    static void promise02_theLastLetterIsThe200th() {
        SoftCosts x = new SoftCosts();
        for (int k = 1; k <= 199; k++) {
            x.write('v');
        }
        due("write of letter 200", x.write('v'), 200);
        due("write of letter 201", x.write('v'), FULL);
        due("letters", x.count(6), 200);
    }

    @Says({"FULL: it has 200.", "FULL.", "nothing changes then."})
    static void promise02_aFullTextStaysAsItIs() {
        leaves(() -> told(new SoftCosts(), LONGEST), "write into a full text", x -> x.write('?'), FULL);
        SoftCosts x = told(new SoftCosts(), LONGEST);
        x.write('?');
        due("fault", x.fault(), NONE);
        due("lay", x.lay(), 1);
        due("TOP of the last ITEM", x.count(2), 11);
    }

    @Says({"BAD;", "Of several the first in this order, whatever the order at a call;"})
    static void promise02_badComesAheadOfFull() {
        SoftCosts x = told(new SoftCosts(), LONGEST);
        due("write(31)", x.write(31), BAD);
        due("write(127)", x.write(127), BAD);
        due("write(32)", x.write(32), FULL);
    }

    // ---- 3 wipe

    @Says("THE TEXT is empty: how long it was.")
    static void promise03_wipeOfAnEmptyText() {
        SoftCosts x = new SoftCosts();
        due("wipe", x.wipe(), 0);
        due("wipe again", x.wipe(), 0);
        due("letters", x.count(6), 0);
    }

    @Says("THE TEXT is empty: how long it was.")
    static void promise03_wipeOfAFullText() {
        SoftCosts x = told(new SoftCosts(), LONGEST);
        due("wipe", x.wipe(), 200);
        due("letters", x.count(6), 0);
        due("wipe again", x.wipe(), 0);
        due("the first letter behind it", x.write('v'), 1);
    }

    @Says("THE TEXT is empty: how long it was.")
    static void promise03_noLetterIsReadBehindTheEnd() {
        SoftCosts x = told(new SoftCosts(), "v2;v3;");
        x.wipe();
        due("fault of nothing", x.fault(), NONE);
        due("lay of nothing", x.lay(), NO);
        told(x, "v2");
        due("fault of v2 where a ; was behind it", x.fault(), 0);
    }

    @Says("THE TEXT is empty: how long it was.")
    static void promise03_whatIsLaidStays() {
        SoftCosts x = busy();
        int letters = x.count(6);
        due("wipe", x.wipe(), letters);
        SoftCosts y = busy();
        due("NAMES", x.count(0), 2);
        due("changes", x.count(5), 6);
        told(x, "t10;v2;v3;u0,0,3;u0,1,1;u1,2,5;b0,1,4;c0,1,2,6;");
        like("written again", story(x), story(y));
    }

    // ---- 4 fault

    @Says({"FAULT of THE TEXT.", "NONE."})
    static void promise04_anEmptyTextHasNone() {
        faultOf("", NONE);
    }

    @Says({"NONE.", "A TEXT is ITEMS one behind the other"})
    static void promise04_aTextWithoutANameHasNone() {
        faultOf("t9;", NONE);
        faultOf("t1;t99;", NONE);
    }

    @Says({"A TEXT is ITEMS one behind the other", "NONE."})
    static void promise04_aTextWithAllKindsHasNone() {
        faultOf(FIRST, NONE);
        faultOf("v2;v2;b0,1,0;c0,1,1,0;u1,1,0;t1;", NONE);
    }

    @Says("FAULT of THE TEXT.")
    static void promise04_whatIsLaidDoesNotCount() {
        SoftCosts x = laid(NINE_TABLES);
        due("fault of what is laid", x.fault(), NONE);
        due("fault again", x.fault(), NONE);
        x.wipe();
        told(x, "u0,0,1;");
        due("fault of a NAME that is laid, not told", x.fault(), 0);
        SoftCosts y = told(new SoftCosts(), "v2;v2;v2;v2;v2;v2;?");
        due("fault behind six NAMES", y.fault(), 18);
        due("fault of it again", y.fault(), 18);
    }

    @Says("FAULT of THE TEXT.")
    static void promise04_faultChangesNothing() {
        leaves(Edges::busy, "fault", SoftCosts::fault, NONE);
        leaves(() -> told(busy(), "t5;v4;?"), "fault", SoftCosts::fault, 53);
    }

    @Says("a ; behind each;")
    static void promise04_theLastItemWantsItsEnd() {
        faultOf("v2", 0);
        faultOf("v2;v3", 3);
        faultOf("v2;v3;", NONE);
        faultOf("v2;u0,0,1", 3);
        faultOf("v", 0);
        faultOf("v2;u0,", 3);
    }

    @Says("a ; behind each;")
    static void promise04_anEmptyItem() {
        faultOf(";", 0);
        faultOf("v2;;", 3);
        faultOf(";v2;", 0);
        faultOf("v2;;v2;", 3);
    }

    @Says("a ; behind each;")
    static void promise04_otherSignsThanItsOwn() {
        faultOf("v2:", 0);
        faultOf("v2,", 0);
        faultOf("v2;u0;0,1;", 3);
        faultOf("v2;u0,0;1;", 3);
        faultOf("v2;u0.0,1;", 3);
        faultOf("v2;u0,0,1,", 3);
    }

    @Says("that is not so")
    static void promise04_letterThatBeginsNoItem() {
        faultOf("x2;", 0);
        faultOf("V2;", 0);
        faultOf("T9;", 0);
        faultOf(" v2;", 0);
        faultOf("v2; v2;", 3);
        faultOf("2;", 0);
        faultOf("v2;~2;", 3);
        faultOf("a2;", 0);
        faultOf("d0,0,0,0;", 0);
        faultOf("s2;", 0);
        faultOf("w2;", 0);
    }

    @Says("numbers have one or two figures:")
    static void promise04_aNumberWithoutFigures() {
        faultOf("t;", 0);
        faultOf("v;", 0);
        faultOf("v2;u,0,1;", 3);
        faultOf("v2;u0,,1;", 3);
        faultOf("v2;u0,0,;", 3);
        faultOf("v2;v2;b0,1,;", 6);
        faultOf("v2;v2;b0,1,1;c0,0,0,;", 13);
    }

    @Says("numbers have one or two figures:")
    static void promise04_numbersOfTwoFigures() {
        faultOf("t09;", NONE);
        faultOf("v02;", NONE);
        faultOf("v2;u00,01,00;", NONE);
        faultOf("v2;v2;b00,01,99;c00,01,01,99;", NONE);
    }

    @Says("numbers have one or two figures:")
    static void promise04_numbersOfThreeFigures() {
        faultOf("t100;", 0);
        faultOf("t009;", 0);
        faultOf("v002;", 0);
        faultOf("v2;u0,0,100;", 3);
        faultOf("v2;u000,0,1;", 3);
        faultOf("v2;u0,001,1;", 3);
        faultOf("v2;v2;b0,1,001;", 6);
        faultOf("v2;v2;b0,1,1;c0,0,0,001;", 13);
    }

    @Says("numbers have one or two figures:")
    static void promise04_figuresAlone() {
        faultOf("v-2;", 0);
        faultOf("v+2;", 0);
        faultOf("v 2;", 0);
        faultOf("v2 ;", 0);
        faultOf("t/;", 0);
        faultOf("t:;", 0);
        faultOf("t1/;", 0);
        faultOf("t1:;", 0);
        faultOf("tA;", 0);
        faultOf("t0;", 0);
        faultOf("t9;", NONE);
        faultOf("t90;", NONE);
        faultOf("t19;", NONE);
    }

    @Says({"tT", "vD", "uI,A,C", "bI,J,C", "cT,A,B,C"})
    static void promise04_tooFewNumbers() {
        faultOf("v2;u0,0;", 3);
        faultOf("v2;u0;", 3);
        faultOf("v2;v2;b0,1;", 6);
        faultOf("v2;v2;b0;", 6);
        faultOf("v2;v2;b0,1,1;c0,0,0;", 13);
        faultOf("v2;v2;b0,1,1;c0;", 13);
    }

    @Says({"tT", "vD", "uI,A,C", "bI,J,C", "cT,A,B,C"})
    static void promise04_tooManyNumbers() {
        faultOf("t1,1;", 0);
        faultOf("v2,2;", 0);
        faultOf("v2,;", 0);
        faultOf("v2;u0,0,1,1;", 3);
        faultOf("v2;v2;b0,1,1,1;", 6);
        faultOf("v2;v2;b0,1,1;c0,0,0,1,1;", 13);
    }

    @Says({"TOP is T (1 to 99;", "COSTS are 0 to TOP (1 to 99);"})
    static void promise04_topIs1To99() {
        faultOf("t0;", 0);
        faultOf("t00;", 0);
        faultOf("t1;", NONE);
        faultOf("t01;", NONE);
        faultOf("t99;", NONE);
        faultOf("v2;t5;t0;", 6);
    }

    @Says({"the next NAME, of D VALUES (2 to 4)", "each with VALUES 0, 1, .. (2 to 4)"})
    static void promise04_valuesAre2To4() {
        faultOf("v0;", 0);
        faultOf("v1;", 0);
        faultOf("v2;", NONE);
        faultOf("v4;", NONE);
        faultOf("v5;", 0);
        faultOf("v04;", NONE);
        faultOf("v12;", 0);
        faultOf("v40;", 0);
    }

    @Says({"(6 at most)", "(or is one too many)."})
    static void promise04_theSeventhNameIsOneTooMany() {
        faultOf("v2;v2;v2;v2;v2;v2;", NONE);
        faultOf("v2;v2;v2;v2;v2;v2;v2;", 18);
        faultOf("v4;v4;v4;v4;v4;v4;t9;v4;?", 21);
    }

    @Says({"and TABLES 0, 1, .. (9 at most)", "(or is one too many)."})
    static void promise04_theTenthTableIsOneTooMany() {
        faultOf(NINE_TABLES, NONE);
        faultOf(NINE_TABLES + "b3,4,1;", NINE_TABLES.length());
        faultOf(NINE_TABLES + "v2;b0,5,1;", NINE_TABLES.length() + 3);
    }

    @Says("VALUE A of NAME I (told ahead) has SINGLE cost C")
    static void promise04_singleOfANameToldAhead() {
        faultOf("u0,0,1;v2;", 0);
        faultOf("v2;u1,0,1;v2;", 3);
        faultOf("v2;v2;u1,0,1;", NONE);
        faultOf("v2;v2;v2;v2;v2;v2;u5,0,1;", NONE);
        faultOf("v2;v2;v2;v2;v2;v2;u6,0,1;", 18);
        faultOf("v2;u10,0,1;", 3);
        faultOf("v2;u99,0,1;", 3);
    }

    @Says({"VALUE A of NAME I (told ahead) has SINGLE cost C", "each with VALUES 0, 1, .. (2 to 4)"})
    static void promise04_singleOfAValueThatThereIs() {
        faultOf("v2;v4;v3;u0,1,1;", NONE);
        faultOf("v2;v4;v3;u0,2,1;", 9);
        faultOf("v2;v4;v3;u1,3,1;", NONE);
        faultOf("v2;v4;v3;u1,4,1;", 9);
        faultOf("v2;v4;v3;u2,2,1;", NONE);
        faultOf("v2;v4;v3;u2,3,1;", 9);
        faultOf("v2;v4;u0,10,1;", 6);
    }

    @Says("VALUE A of NAME I (told ahead) has SINGLE cost C")
    static void promise04_costsAre0To99WhateverTopIs() {
        faultOf("t1;v2;u0,0,0;u0,1,99;", NONE);
        faultOf("t1;v2;v2;b0,1,99;c0,0,1,99;", NONE);
    }

    @Says("of NAMES I and J (told ahead, I below J)")
    static void promise04_tableOfNamesToldAhead() {
        faultOf("b0,1,1;v2;v2;", 0);
        faultOf("v2;b0,1,1;v2;", 3);
        faultOf("v2;v2;b0,2,1;v2;", 6);
        faultOf("v2;v2;v2;v2;v2;v2;b4,5,1;", NONE);
        faultOf("v2;v2;v2;v2;v2;v2;b5,6,1;", 18);
        faultOf("v2;v2;b0,11,1;", 6);
    }

    @Says({"of NAMES I and J (told ahead, I below J)", "each of two unlike NAMES I and J, I the lower;"})
    static void promise04_tableOfTwoUnlikeNamesTheLowerFirst() {
        faultOf("v2;v2;b0,1,1;", NONE);
        faultOf("v2;v2;b1,0,1;", 6);
        faultOf("v2;v2;b0,0,1;", 6);
        faultOf("v2;v2;b1,1,1;", 6);
    }

    @Says({"of two NAMES one at most.", "(or is one too many)."})
    static void promise04_theSecondTableOfTwoNamesIsOneTooMany() {
        faultOf("v2;v2;b0,1,1;b0,1,1;", 13);
        faultOf("v2;v2;v2;b0,1,1;b0,2,1;b1,2,1;", NONE);
        faultOf("v2;v2;v2;b0,1,1;b0,2,1;b1,2,1;b0,1,9;", 30);
        faultOf("v2;v2;v2;b0,1,1;b0,2,1;b1,2,1;b1,2,0;", 30);
        faultOf("v2;v2;v2;b1,2,1;b0,2,1;", NONE);
    }

    @Says("in TABLE T (told ahead) VALUE A of the lower NAME and B of the other one cost C")
    static void promise04_pairOfATableToldAhead() {
        faultOf("v2;v2;c0,0,0,1;b0,1,1;", 6);
        faultOf("v2;v2;b0,1,1;c1,0,0,1;", 13);
        faultOf(NINE_TABLES + "c8,1,1,1;", NONE);
        faultOf(NINE_TABLES + "c9,1,1,1;", NINE_TABLES.length());
        faultOf("v2;v2;b0,1,1;c10,0,0,1;", 13);
    }

    @Says("in TABLE T (told ahead) VALUE A of the lower NAME and B of the other one cost C")
    static void promise04_pairOfValuesThatThereAre() {
        faultOf("v2;v4;b0,1,1;c0,1,3,1;", NONE);
        faultOf("v2;v4;b0,1,1;c0,2,3,1;", 13);
        faultOf("v2;v4;b0,1,1;c0,1,4,1;", 13);
        faultOf("v2;v4;b0,1,1;c0,3,1,1;", 13);
        faultOf("v4;v2;b0,1,1;c0,3,1,1;", NONE);
        faultOf("v4;v2;b0,1,1;c0,1,3,1;", 13);
        faultOf("v4;v2;b0,1,1;c0,3,2,1;", 13);
    }

    @Says("FAULT: the place of the first letter of the first ITEM")
    static void promise04_thePlaceIsTheItemsFirstLetter() {
        faultOf("?", 0);
        faultOf("v2;v2;b0,1,1;c0,0,0,1x;", 13);
        faultOf("t20;v3;v3;u0,0,77x", 10);
        faultOf("v02;" + "t10;".repeat(48) + "t11?", 196);
        faultOf("v02;" + "t9;".repeat(65) + "x", 199);
    }

    @Says("FAULT: the place of the first letter of the first ITEM")
    static void promise04_theFirstOfSeveralFaults() {
        faultOf("v2;x;v9;u7,7,7;", 3);
        faultOf("v9;x;", 0);
        faultOf("v2;u0,2,1;v1;", 3);
        faultOf("v2;v1;u0,2,1;", 3);
    }

    // ---- 5 lay

    @Says({"LAID: how many NAMES;", "LAID is a TEXT without FAULT with a NAME at least"})
    static void promise05_oneNameIsEnough() {
        due("lay of one NAME", told(new SoftCosts(), "v2;").lay(), 1);
        due("lay of six NAMES", told(new SoftCosts(), "v2;v2;v2;v2;v2;v2;").lay(), 6);
        SoftCosts x = laid("v4;");
        due("NAMES", x.count(0), 1);
        due("TABLES", x.count(1), 0);
    }

    @Says({"LAID is a TEXT without FAULT with a NAME at least", "(NO else;", "NO."})
    static void promise05_anEmptyTextIsNotLaid() {
        laysNot("");
        due("lay of a new object", new SoftCosts().lay(), NO);
    }

    @Says({"LAID is a TEXT without FAULT with a NAME at least", "(NO else;", "nothing changes then."})
    static void promise05_aTextWithoutANameIsNotLaid() {
        laysNot("t9;");
        laysNot("t9;t8;");
    }

    @Says({"LAID is a TEXT without FAULT with a NAME at least", "(NO else;", "nothing changes then."})
    static void promise05_aTextWithFaultIsNotLaid() {
        laysNot("?");
        laysNot("v2");
        laysNot("t7;v4;v4;u0,3,3;b0,1,2;v1;");
        laysNot("t7;v2;v2;v2;v2;v2;v2;v2;");
        laysNot("v9;v2;");
    }

    @Says("the CHOICE told is VALUE 0 of each")
    static void promise05_theChoiceIsValueZeroOfEach() {
        SoftCosts x = laid("v2;v4;");
        x.choose(0, 1);
        x.choose(1, 3);
        x.lay();
        due("choose(0,0)", x.choose(0, 0), NO);
        due("choose(1,0)", x.choose(1, 0), NO);
        x.choose(1, 3);
        x.wipe();
        told(x, "v2;v2;").lay();
        due("choose(1,0) of fewer VALUES", x.choose(1, 0), NO);
        due("total", x.total(), 0);
    }

    @Says({"nothing can be UNDONE.", "behind LAID none can be)."})
    static void promise05_nothingCanBeUndone() {
        SoftCosts x = busy();
        due("changes ahead of it", x.count(5), 6);
        due("lay", x.lay(), 2);
        due("changes behind it", x.count(5), 0);
        due("undo", x.undo(), NO);
        x.grow(0, 0, 1);
        due("one change", x.count(5), 1);
        due("undo of it", x.undo(), 0);
        due("undo of none", x.undo(), NO);
        due("as laid", x.single(0, 0), 3);
    }

    @Says("THE TEXT stays when it is LAID.")
    static void promise05_theTextStays() {
        SoftCosts x = told(new SoftCosts(), "v2;u0,0,4;");
        due("lay", x.lay(), 1);
        due("letters", x.count(6), 10);
        due("one letter more", x.write('v'), 11);
        told(x, "3;");
        due("lay of more", x.lay(), 2);
        due("wipe", x.wipe(), 13);
    }

    @Says("The CONSTANT is 0 then")
    static void promise05_theConstantIsZero() {
        SoftCosts x = laid("v2;u0,0,4;u0,1,6;");
        due("raise", x.raise(0, 4), 4);
        due("lay again", x.lay(), 1);
        due("CONSTANT", x.count(3), 0);
        singles(x, 0, 4, 6);
    }

    @Says("20 without;")
    static void promise05_topIs20Without() {
        SoftCosts x = laid("t5;v2;");
        due("TOP told", x.count(2), 5);
        x.wipe();
        told(x, "v2;u0,0,21;u0,1,19;").lay();
        due("TOP not told", x.count(2), 20);
        singles(x, 0, 20, 19);
    }

    @Says("of several the last one counts)")
    static void promise05_ofSeveralTopsTheLast() {
        SoftCosts x = laid("t5;v2;u0,0,9;t10;");
        due("the higher one last", x.count(2), 10);
        due("a cost between", x.single(0, 0), 9);
        SoftCosts y = laid("t10;v2;u0,0,9;t5;");
        due("the lower one last", y.count(2), 5);
        due("the cost is TOP", y.single(0, 0), 5);
        due("20 ahead of it", laid("t20;t1;v2;t2;t3;").count(2), 3);
    }

    @Says({"costs above TOP are TOP.", "COSTS are 0 to TOP (1 to 99);"})
    static void promise05_singlesAboveTopAreTop() {
        SoftCosts x = laid("t7;v4;u0,0,6;u0,1,7;u0,2,8;u0,3,99;");
        singles(x, 0, 6, 7, 7, 7);
        SoftCosts y = laid("v3;u0,0,6;u0,1,99;t1;");
        singles(y, 0, 1, 1, 0);
        SoftCosts z = laid("t99;v2;u0,0,98;u0,1,99;");
        singles(z, 0, 98, 99);
    }

    @Says("costs above TOP are TOP.")
    static void promise05_pairsAboveTopAreTop() {
        SoftCosts x = laid("t7;v2;v2;b0,1,8;c0,0,1,7;c0,1,0,6;");
        pairs(x, 0, "7 7/6 7");
        SoftCosts y = laid("v2;v2;b0,1,8;c0,0,1,99;c0,1,0,6;t7;");
        pairs(y, 0, "7 7/6 7");
        SoftCosts z = laid(NINE_TABLES + "c8,1,1,9;t8;");
        pairs(z, 8, "1 0/0 8");
    }

    @Says("(0 without; the last one of each)")
    static void promise05_singlesAreZeroWithoutAndTheLastOneCounts() {
        SoftCosts x = laid("v3;v2;u0,0,9;u0,1,4;u0,0,2;u0,1,0;u1,0,5;u1,0,6;");
        singles(x, 0, 2, 0, 0);
        singles(x, 1, 6, 0);
    }

    @Says({"PAIRS of like VALUES cost C, all others 0", "the next TABLE,"})
    static void promise05_tablesOfUnlikeSizes() {
        SoftCosts x = laid("v2;v4;v3;b0,1,5;b1,2,6;b0,2,0;");
        pairs(x, 0, "5 0 0 0/0 5 0 0");
        pairs(x, 1, "6 0 0/0 6 0/0 0 6/0 0 0");
        pairs(x, 2, "0 0 0/0 0 0");
        due("lower NAME of the first", x.table(0, 0), 0);
        due("lower NAME of the second", x.table(1, 0), 1);
        due("other NAME of the third", x.table(2, 1), 2);
    }

    @Says({"in TABLE T (told ahead) VALUE A of the lower NAME and B of the other one cost C",
        "in each TABLE the cost of each PAIR (a VALUE of I, one of J)."})
    static void promise05_pairsOfTheLowerAndTheOtherName() {
        SoftCosts x = laid("v2;v3;b0,1,5;c0,0,2,7;c0,1,1,0;c0,0,0,1;c0,0,0,2;");
        pairs(x, 0, "2 0 7/0 0 0");
        SoftCosts y = laid("v2;v2;v2;b1,2,3;b0,2,4;c1,0,1,9;c0,1,0,8;");
        pairs(y, 0, "3 0/8 3");
        pairs(y, 1, "4 9/0 4");
    }

    @Says({"LAID: how many NAMES;", "There are: the CONSTANT, the SINGLE cost of each VALUE of each NAME,"})
    static void promise05_nothingIsLeftOfWhatWasLaid() {
        SoftCosts x = laid("t9;v4;v4;v4;u0,1,6;u1,3,5;b0,1,3;b1,2,4;c0,0,1,8;");
        x.wipe();
        told(x, "v2;v2;b0,1,1;");
        due("lay of less", x.lay(), 2);
        singles(x, 0, 0, 0);
        singles(x, 1, 0, 0);
        pairs(x, 0, "1 0/0 1");
        due("TOP", x.count(2), 20);
        due("a TABLE", x.table(1, 0), BAD);
        due("a NAME", x.name(2, 0), BAD);
        due("a VALUE", x.single(1, 2), BAD);
        x.wipe();
        told(x, "v2;v4;v4;b0,1,0;b1,2,0;");
        due("lay of more again", x.lay(), 3);
        singles(x, 1, 0, 0, 0, 0);
        pairs(x, 1, "0 0 0 0/0 0 0 0/0 0 0 0/0 0 0 0");
    }

    @Says("LAID: how many NAMES;")
    static void promise05_nothingIsLeftOfATextWithFault() {
        SoftCosts x = told(new SoftCosts(), "t9;v2;v4;u0,0,7;b0,1,6;?");
        due("lay", x.lay(), NO);
        x.wipe();
        told(x, "v2;v2;b0,1,0;");
        due("lay", x.lay(), 2);
        due("TOP", x.count(2), 20);
        singles(x, 0, 0, 0);
        singles(x, 1, 0, 0);
        pairs(x, 0, "0 0/0 0");
    }
}
