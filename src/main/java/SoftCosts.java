/** Costs of choices that are moved about between tables, values and a constant; see README.md. */
public final class SoftCosts {
    public static final int BAD = -1, NO = -2, FULL = -3, NONE = -4;

    private static final int MOST_NAMES = 6;
    private static final int MOST_VALUES = 4;
    private static final int MOST_TABLES = 9;
    private static final int MOST_LETTERS = 200;
    private static final int MOST_UNDOS = 6;
    private static final int MOST_SWEEPS = 9;
    private static final int SETTLING_SWEEPS = 20;
    private static final int HIGHEST_COST = 99;
    private static final int USUAL_TOP = 20;

    /* All costs stand in one row, so that a copy or a comparison of them all is one loop. */
    private static final int CONSTANT_AT = 0;
    private static final int SINGLES_AT = 1;
    private static final int PAIRS_AT = SINGLES_AT + MOST_NAMES * MOST_VALUES;
    private static final int PAIRS_OF_TABLE = MOST_VALUES * MOST_VALUES;
    private static final int ALL_COSTS = PAIRS_AT + MOST_TABLES * PAIRS_OF_TABLE;

    private static final int LOWER = 0;
    private static final int HIGHER = 1;

    private static final int NODES = 0;
    private static final int ARCS = 1;
    private static final int DIRECTED = 2;

    /** Stands for a NAME or a TABLE where none is meant. */
    private static final int NOT_ONE = -1;

    private static final String FIRST_TEXT =
        "t20;v3;v3;v2;v3;u0,0,2;u1,2,1;u3,1,4;b0,1,5;b1,2,3;b0,3,7;b2,3,9;c1,2,1,6;c3,0,2,4;";

    private final Text text = new Text();
    private final Reader reader = new Reader();
    private final Costs costs = new Costs();
    private final Costs spare = new Costs();
    private final Row told = new Row(MOST_NAMES);
    private final Sweeps sweeps = new Sweeps();
    private final History history = new History();
    private final Search search = new Search();
    private final Trial trial = new Trial();

    public SoftCosts() {
        for (int k = 0; k < FIRST_TEXT.length(); k++) {
            text.add(FIRST_TEXT.charAt(k));
        }
        reader.readAll(text, costs);
        text.clear();
    }

    // ---- told

    public int write(int letter) {
        if (letter < 32 || letter > 126) {
            return BAD;
        }
        return text.add(letter) ? text.length() : FULL;
    }

    public int wipe() {
        int length = text.length();
        text.clear();
        return length;
    }

    public int fault() {
        return reader.readAll(text, spare);
    }

    public int lay() {
        if (reader.readAll(text, spare) != NONE || spare.names() == 0) {
            return NO;
        }
        costs.takeAll(spare);
        told.clear();
        history.clear();
        return costs.names();
    }

    // ---- costs

    public int name(int i, int what) {
        if (!costs.hasName(i)) {
            return BAD;
        }
        switch (what) {
            case 0: return costs.valuesOf(i);
            case 1: return costs.tablesOf(i);
            case 2: return costs.shutOf(i);
            case 3: return costs.leastSingle(i);
            default: return BAD;
        }
    }

    public int single(int i, int a) {
        return costs.hasValue(i, a) ? costs.singleCost(i, a) : BAD;
    }

    public int table(int t, int what) {
        if (!costs.hasTable(t)) {
            return BAD;
        }
        switch (what) {
            case 0: return costs.nameOn(t, LOWER);
            case 1: return costs.nameOn(t, HIGHER);
            case 2: return costs.leastOfTable(t);
            case 3: return costs.greatestOfTable(t);
            default: return BAD;
        }
    }

    public int pair(int t, int a, int b) {
        return costs.hasPair(t, a, b) ? costs.pairCost(t, a, b) : BAD;
    }

    public int grow(int i, int a, int x) {
        if (!costs.hasValue(i, a) || !isStep(x)) {
            return BAD;
        }
        history.keep(costs);
        costs.growSingle(i, a, x);
        return costs.singleCost(i, a);
    }

    // ---- choices

    public int choose(int i, int a) {
        if (!costs.hasValue(i, a)) {
            return BAD;
        }
        int had = told.get(i);
        if (had == a) {
            return NO;
        }
        told.set(i, a);
        return had;
    }

    public int total() {
        return costs.totalOf(told);
    }

    // ---- moved

    public int project(int t, int side, int a, int x) {
        if (!costs.hasValueOn(t, side, a) || !isStep(x)) {
            return BAD;
        }
        if (costs.leastPairOf(t, side, a) < x) {
            return NO;
        }
        history.keep(costs);
        costs.moveToValue(t, side, a, x);
        return costs.singleCost(costs.nameOn(t, side), a);
    }

    public int extend(int t, int side, int a, int x) {
        if (!costs.hasValueOn(t, side, a) || !isStep(x)) {
            return BAD;
        }
        int i = costs.nameOn(t, side);
        if (costs.singleCost(i, a) < x) {
            return NO;
        }
        history.keep(costs);
        costs.moveToTable(t, side, a, x);
        return costs.singleCost(i, a);
    }

    public int raise(int i, int x) {
        if (!costs.hasName(i) || !isStep(x)) {
            return BAD;
        }
        if (costs.leastSingle(i) < x) {
            return NO;
        }
        history.keep(costs);
        costs.moveToConstant(i, x);
        return costs.constant();
    }

    public int sweep(int kind, int n) {
        if (!isSweep(kind) || n < 1 || n > MOST_SWEEPS) {
            return BAD;
        }
        history.keep(costs);
        for (int k = 0; k < n; k++) {
            sweeps.doOne(costs, kind);
        }
        return costs.constant();
    }

    public int settle(int kind) {
        if (!isSweep(kind)) {
            return BAD;
        }
        history.keep(costs);
        return sweeps.doTillSettled(costs, kind);
    }

    public int bound(int kind) {
        if (!isSweep(kind)) {
            return BAD;
        }
        spare.takeAll(costs);
        sweeps.doTillSettled(spare, kind);
        return spare.constant();
    }

    public int undo() {
        return history.giveBack(costs) ? history.size() : NO;
    }

    // ---- what is best

    public int best(int i) {
        if (i != -1 && i != -2 && !costs.hasName(i)) {
            return BAD;
        }
        search.goThrough(costs, NOT_ONE, 0, NOT_ONE);
        if (!search.hasFound()) {
            return NONE;
        }
        switch (i) {
            case -1: return search.leastTotal();
            case -2: return search.waysOfLeast();
            default: return search.firstValueOf(i);
        }
    }

    public int next(int what) {
        if (what != 0 && what != 1) {
            return BAD;
        }
        search.goThrough(costs, NOT_ONE, 0, NOT_ONE);
        if (what == 1) {
            return search.choicesBelowTop();
        }
        return search.hasSecond() ? search.secondTotal() : NONE;
    }

    public int backbone() {
        search.goThrough(costs, NOT_ONE, 0, NOT_ONE);
        return search.hasFound() ? search.commonValues() : NONE;
    }

    public int with(int i, int a) {
        if (!costs.hasValue(i, a)) {
            return BAD;
        }
        search.goThrough(costs, i, a, NOT_ONE);
        return search.hasFound() ? search.leastTotal() : NONE;
    }

    public int without(int t) {
        if (!costs.hasTable(t)) {
            return BAD;
        }
        search.goThrough(costs, NOT_ONE, 0, t);
        return search.hasFound() ? search.leastTotal() : NONE;
    }

    public int tries() {
        return trial.countTries(costs);
    }

    public int count(int what) {
        switch (what) {
            case 0: return costs.names();
            case 1: return costs.tables();
            case 2: return costs.top();
            case 3: return costs.constant();
            case 4: return costs.shutInAll();
            case 5: return history.size();
            case 6: return text.length();
            default: return BAD;
        }
    }

    private static boolean isStep(int x) {
        return x >= 1 && x <= HIGHEST_COST;
    }

    private static boolean isSweep(int kind) {
        return kind >= NODES && kind <= DIRECTED;
    }

    /** A row of numbers that may be asked for any place: one that it has not is 0 and stays so. */
    private static final class Row {
        private final int[] numbers;

        Row(int length) {
            numbers = new int[Math.max(0, length)];
        }

        int get(int place) {
            return place >= 0 && place < numbers.length ? numbers[place] : 0;
        }

        void set(int place, int number) {
            if (place >= 0 && place < numbers.length) {
                numbers[place] = number;
            }
        }

        void clear() {
            for (int k = 0; k < numbers.length; k++) {
                numbers[k] = 0;
            }
        }

        void takeFrom(Row other) {
            for (int k = 0; k < numbers.length; k++) {
                numbers[k] = other.get(k);
            }
        }

        boolean isLike(Row other) {
            for (int k = 0; k < numbers.length; k++) {
                if (numbers[k] != other.get(k)) {
                    return false;
                }
            }
            return true;
        }
    }

    /** THE TEXT. */
    private static final class Text {
        private final Row letters = new Row(MOST_LETTERS);
        private int length;

        int length() {
            return length;
        }

        void clear() {
            length = 0;
        }

        boolean add(int letter) {
            if (length >= MOST_LETTERS) {
                return false;
            }
            letters.set(length, letter);
            length++;
            return true;
        }

        /** -1 behind the end: no letter that an ITEM could have. */
        int letterAt(int place) {
            return place >= 0 && place < length ? letters.get(place) : -1;
        }
    }

    /** Reads the ITEMS of a text. */
    private static final class Reader {
        private static final int MOST_NUMBERS = 4;

        private final Row numbers = new Row(MOST_NUMBERS);
        private int place;

        /** The FAULT, or NONE; behind a FAULT the costs are of no use. */
        int readAll(Text text, Costs costs) {
            costs.clear();
            place = 0;
            for (int items = 0; items < MOST_LETTERS && place < text.length(); items++) {
                int start = place;
                if (!readItem(text, costs)) {
                    return start;
                }
            }
            costs.keepToTop();
            return NONE;
        }

        private boolean readItem(Text text, Costs costs) {
            int kind = text.letterAt(place);
            place++;
            int wanted = numbersOf(kind);
            return wanted > 0 && readNumbers(text, wanted) && tell(kind, costs);
        }

        private static int numbersOf(int kind) {
            switch (kind) {
                case 't': return 1;
                case 'v': return 1;
                case 'u': return 3;
                case 'b': return 3;
                case 'c': return 4;
                default: return 0;
            }
        }

        private boolean readNumbers(Text text, int wanted) {
            for (int k = 0; k < wanted; k++) {
                int sign = k == wanted - 1 ? ';' : ',';
                if (!readNumber(text, k) || text.letterAt(place) != sign) {
                    return false;
                }
                place++;
            }
            return true;
        }

        private boolean readNumber(Text text, int k) {
            if (!isFigure(text.letterAt(place))) {
                return false;
            }
            int number = text.letterAt(place) - '0';
            place++;
            if (isFigure(text.letterAt(place))) {
                number = 10 * number + text.letterAt(place) - '0';
                place++;
            }
            numbers.set(k, number);
            return true;
        }

        private static boolean isFigure(int letter) {
            return letter >= '0' && letter <= '9';
        }

        private boolean tell(int kind, Costs costs) {
            int first = numbers.get(0);
            int second = numbers.get(1);
            int third = numbers.get(2);
            switch (kind) {
                case 't': return costs.tellTop(first);
                case 'v': return costs.addName(first);
                case 'u': return costs.tellSingle(first, second, third);
                case 'b': return costs.addTable(first, second, third);
                case 'c': return costs.tellPair(first, second, third, numbers.get(3));
                default: return false;
            }
        }
    }

    /** NAMES, TABLES, TOP and all costs, with the moves of costs. */
    private static final class Costs {
        private final Row sizes = new Row(MOST_NAMES);
        private final Row lowers = new Row(MOST_TABLES);
        private final Row highers = new Row(MOST_TABLES);
        private final Row costs = new Row(ALL_COSTS);
        private int names;
        private int tables;
        private int top = USUAL_TOP;

        // how it is told

        void clear() {
            names = 0;
            tables = 0;
            top = USUAL_TOP;
            costs.clear();
        }

        void takeAll(Costs other) {
            names = other.names;
            tables = other.tables;
            top = other.top;
            sizes.takeFrom(other.sizes);
            lowers.takeFrom(other.lowers);
            highers.takeFrom(other.highers);
            costs.takeFrom(other.costs);
        }

        boolean tellTop(int cost) {
            if (cost < 1 || cost > HIGHEST_COST) {
                return false;
            }
            top = cost;
            return true;
        }

        boolean addName(int values) {
            if (names >= MOST_NAMES || values < 2 || values > MOST_VALUES) {
                return false;
            }
            sizes.set(names, values);
            names++;
            return true;
        }

        boolean tellSingle(int i, int a, int cost) {
            if (!hasValue(i, a)) {
                return false;
            }
            setSingle(i, a, cost);
            return true;
        }

        boolean addTable(int i, int j, int cost) {
            if (tables >= MOST_TABLES || !hasName(i) || !hasName(j) || i >= j || isJoined(i, j)) {
                return false;
            }
            int t = tables;
            lowers.set(t, i);
            highers.set(t, j);
            tables++;
            for (int a = 0; a < Math.min(valuesOf(i), valuesOf(j)); a++) {
                setPair(t, a, a, cost);
            }
            return true;
        }

        private boolean isJoined(int i, int j) {
            for (int t = 0; t < tables; t++) {
                if (nameOn(t, LOWER) == i && nameOn(t, HIGHER) == j) {
                    return true;
                }
            }
            return false;
        }

        boolean tellPair(int t, int a, int b, int cost) {
            if (!hasPair(t, a, b)) {
                return false;
            }
            setPair(t, a, b, cost);
            return true;
        }

        /** TOP may be told behind the costs, so they are bounded when all is told. */
        void keepToTop() {
            for (int k = 0; k < ALL_COSTS; k++) {
                costs.set(k, Math.min(top, costs.get(k)));
            }
        }

        // what there is

        int names() {
            return names;
        }

        int tables() {
            return tables;
        }

        int top() {
            return top;
        }

        boolean hasName(int i) {
            return i >= 0 && i < names;
        }

        boolean hasValue(int i, int a) {
            return i >= 0 && i < names && a >= 0 && a < sizes.get(i);
        }

        boolean hasTable(int t) {
            return t >= 0 && t < tables;
        }

        boolean hasValueOn(int t, int side, int a) {
            return hasTable(t) && (side == LOWER || side == HIGHER) && a >= 0 && a < valuesOn(t, side);
        }

        boolean hasPair(int t, int a, int b) {
            return hasTable(t) && a >= 0 && a < valuesOn(t, LOWER) && b >= 0 && b < valuesOn(t, HIGHER);
        }

        int valuesOf(int i) {
            return sizes.get(i);
        }

        int nameOn(int t, int side) {
            return side == LOWER ? lowers.get(t) : highers.get(t);
        }

        int valuesOn(int t, int side) {
            return sizes.get(side == LOWER ? lowers.get(t) : highers.get(t));
        }

        int tablesOf(int i) {
            int bits = 0;
            for (int t = 0; t < tables; t++) {
                if (nameOn(t, LOWER) == i || nameOn(t, HIGHER) == i) {
                    bits |= 1 << t;
                }
            }
            return bits;
        }

        // costs as they are

        int constant() {
            return costs.get(CONSTANT_AT);
        }

        int singleCost(int i, int a) {
            return costs.get(singleAt(i, a));
        }

        int pairCost(int t, int a, int b) {
            return costs.get(pairAt(t, a, b));
        }

        private static int singleAt(int i, int a) {
            return SINGLES_AT + MOST_VALUES * i + a;
        }

        private static int pairAt(int t, int a, int b) {
            return PAIRS_AT + PAIRS_OF_TABLE * t + MOST_VALUES * a + b;
        }

        /** Where a PAIR stands, seen from one side: a is the VALUE there, other the one across. */
        private static int pairFrom(int t, int side, int a, int other) {
            return side == LOWER ? pairAt(t, a, other) : pairAt(t, other, a);
        }

        private static int acrossFrom(int side) {
            return side == LOWER ? HIGHER : LOWER;
        }

        int leastSingle(int i) {
            int least = top;
            for (int a = 0; a < valuesOf(i); a++) {
                least = Math.min(least, singleCost(i, a));
            }
            return least;
        }

        int leastPairOf(int t, int side, int a) {
            int least = top;
            int others = valuesOn(t, acrossFrom(side));
            for (int other = 0; other < others; other++) {
                least = Math.min(least, costs.get(pairFrom(t, side, a, other)));
            }
            return least;
        }

        int leastOfTable(int t) {
            int least = top;
            for (int a = 0; a < valuesOn(t, LOWER); a++) {
                least = Math.min(least, leastPairOf(t, LOWER, a));
            }
            return least;
        }

        int greatestOfTable(int t) {
            int greatest = 0;
            for (int a = 0; a < valuesOn(t, LOWER); a++) {
                for (int b = 0; b < valuesOn(t, HIGHER); b++) {
                    greatest = Math.max(greatest, pairCost(t, a, b));
                }
            }
            return greatest;
        }

        boolean isShut(int i, int a) {
            return sum(constant(), singleCost(i, a)) == top;
        }

        int shutOf(int i) {
            int bits = 0;
            for (int a = 0; a < valuesOf(i); a++) {
                if (isShut(i, a)) {
                    bits |= 1 << a;
                }
            }
            return bits;
        }

        int shutInAll() {
            int shut = 0;
            for (int i = 0; i < names; i++) {
                shut += Integer.bitCount(shutOf(i));
            }
            return shut;
        }

        int sum(int cost, int more) {
            int all = cost + more;
            return all < top ? all : top;
        }

        /** SUM of the SINGLE cost of VALUE b of NAME j and its PAIRS with what is chosen of NAMES below j and end. */
        int costBeside(Row choice, int end, int j, int b, int leftOut) {
            int cost = costs.get(singleAt(j, b));
            for (int t = 0; t < tables; t++) {
                int i = lowers.get(t);
                if (highers.get(t) == j && i < end && t != leftOut) {
                    cost = sum(cost, costs.get(pairAt(t, choice.get(i), b)));
                }
            }
            return cost;
        }

        int totalOf(Row choice) {
            int total = constant();
            for (int j = 0; j < names; j++) {
                total = sum(total, costBeside(choice, j, j, choice.get(j), NOT_ONE));
            }
            return total;
        }

        // costs that change

        void copyTo(Row row) {
            row.takeFrom(costs);
        }

        void copyFrom(Row row) {
            costs.takeFrom(row);
        }

        boolean areAs(Row row) {
            return costs.isLike(row);
        }

        private void setSingle(int i, int a, int cost) {
            costs.set(singleAt(i, a), cost);
        }

        private void setPair(int t, int a, int b, int cost) {
            costs.set(pairAt(t, a, b), cost);
        }

        private void lessen(int at, int x) {
            int cost = costs.get(at);
            costs.set(at, cost == top ? cost : cost - x);
        }

        private void enlarge(int at, int x) {
            costs.set(at, sum(costs.get(at), x));
        }

        void growSingle(int i, int a, int x) {
            enlarge(singleAt(i, a), x);
        }

        /** PROJECTED, where all costs of its PAIRS are x or more. */
        void moveToValue(int t, int side, int a, int x) {
            int others = valuesOn(t, acrossFrom(side));
            for (int other = 0; other < others; other++) {
                lessen(pairFrom(t, side, a, other), x);
            }
            enlarge(singleAt(nameOn(t, side), a), x);
        }

        /** EXTENDED, where its SINGLE cost is x or more. */
        void moveToTable(int t, int side, int a, int x) {
            lessen(singleAt(nameOn(t, side), a), x);
            int others = valuesOn(t, acrossFrom(side));
            for (int other = 0; other < others; other++) {
                enlarge(pairFrom(t, side, a, other), x);
            }
        }

        /** RAISED, where all its SINGLE costs are x or more. */
        void moveToConstant(int i, int x) {
            for (int a = 0; a < valuesOf(i); a++) {
                lessen(singleAt(i, a), x);
            }
            enlarge(CONSTANT_AT, x);
        }

        void topShutSingles(int i) {
            for (int a = 0; a < valuesOf(i); a++) {
                if (isShut(i, a)) {
                    setSingle(i, a, top);
                }
            }
        }

        void topPairsOfTopSingles(int t) {
            int i = nameOn(t, LOWER);
            int j = nameOn(t, HIGHER);
            for (int a = 0; a < valuesOf(i); a++) {
                for (int b = 0; b < valuesOf(j); b++) {
                    if (singleCost(i, a) == top || singleCost(j, b) == top) {
                        setPair(t, a, b, top);
                    }
                }
            }
        }
    }

    /** The three kinds of SWEEPS. */
    private static final class Sweeps {
        private final Row ahead = new Row(ALL_COSTS);
        private final Row toLower = new Row(MOST_VALUES);
        private final Row fromHigher = new Row(MOST_VALUES);

        /** How many SWEEPS changed a cost. */
        int doTillSettled(Costs costs, int kind) {
            for (int done = 0; done < SETTLING_SWEEPS; done++) {
                costs.copyTo(ahead);
                doOne(costs, kind);
                if (costs.areAs(ahead)) {
                    return done;
                }
            }
            return SETTLING_SWEEPS;
        }

        void doOne(Costs costs, int kind) {
            if (kind == ARCS) {
                doArcs(costs);
            } else if (kind == DIRECTED) {
                doDirected(costs);
            }
            doNodes(costs);
        }

        private static void doNodes(Costs costs) {
            for (int i = 0; i < costs.names(); i++) {
                int least = costs.leastSingle(i);
                if (least > 0) {
                    costs.moveToConstant(i, least);
                }
                costs.topShutSingles(i);
            }
        }

        private static void doArcs(Costs costs) {
            for (int t = 0; t < costs.tables(); t++) {
                costs.topPairsOfTopSingles(t);
                projectLeasts(costs, t, LOWER);
                projectLeasts(costs, t, HIGHER);
            }
        }

        private static void projectLeasts(Costs costs, int t, int side) {
            for (int a = 0; a < costs.valuesOn(t, side); a++) {
                int least = costs.leastPairOf(t, side, a);
                if (least > 0) {
                    costs.moveToValue(t, side, a, least);
                }
            }
        }

        private void doDirected(Costs costs) {
            for (int j = costs.names() - 1; j >= 0; j--) {
                for (int t = 0; t < costs.tables(); t++) {
                    if (costs.nameOn(t, HIGHER) == j) {
                        direct(costs, t);
                    }
                }
            }
        }

        private void direct(Costs costs, int t) {
            int valuesOfLower = costs.valuesOn(t, LOWER);
            int valuesOfHigher = costs.valuesOn(t, HIGHER);
            costs.topPairsOfTopSingles(t);
            for (int a = 0; a < valuesOfLower; a++) {
                toLower.set(a, reachOf(costs, t, a));
            }
            for (int b = 0; b < valuesOfHigher; b++) {
                fromHigher.set(b, needOf(costs, t, b));
            }
            for (int b = 0; b < valuesOfHigher; b++) {
                if (fromHigher.get(b) > 0) {
                    costs.moveToTable(t, HIGHER, b, fromHigher.get(b));
                }
            }
            for (int a = 0; a < valuesOfLower; a++) {
                if (toLower.get(a) > 0) {
                    costs.moveToValue(t, LOWER, a, toLower.get(a));
                }
            }
        }

        /** P of a VALUE a of the lower NAME. */
        private static int reachOf(Costs costs, int t, int a) {
            int j = costs.nameOn(t, HIGHER);
            int least = costs.top();
            for (int b = 0; b < costs.valuesOf(j); b++) {
                least = Math.min(least, costs.sum(costs.pairCost(t, a, b), costs.singleCost(j, b)));
            }
            return least;
        }

        /** E of a VALUE b of the higher NAME, when P of all VALUES of the lower one is known. */
        private int needOf(Costs costs, int t, int b) {
            int greatest = 0;
            for (int a = 0; a < costs.valuesOn(t, LOWER); a++) {
                greatest = Math.max(greatest, toLower.get(a) - costs.pairCost(t, a, b));
            }
            return greatest;
        }
    }

    /** Costs as they were ahead of the latest changes. */
    private static final class History {
        private final Row[] kept = new Row[MOST_UNDOS];
        private int slot;
        private int size;

        History() {
            for (int k = 0; k < kept.length; k++) {
                kept[k] = new Row(ALL_COSTS);
            }
        }

        int size() {
            return size;
        }

        void clear() {
            size = 0;
        }

        /** The oldest gives way when there are too many. */
        void keep(Costs costs) {
            if (slot < 0 || slot >= kept.length || kept[slot] == null) {
                return;
            }
            costs.copyTo(kept[slot]);
            slot = slot + 1 < kept.length ? slot + 1 : 0;
            size = Math.min(kept.length, size + 1);
        }

        boolean giveBack(Costs costs) {
            int last = slot > 0 ? slot - 1 : kept.length - 1;
            if (size == 0 || last < 0 || last >= kept.length || kept[last] == null) {
                return false;
            }
            costs.copyFrom(kept[last]);
            slot = last;
            size--;
            return true;
        }
    }

    /** Goes through all CHOICES of a TOTAL below TOP, the first ones first. */
    private static final class Search {
        private final Row choice = new Row(MOST_NAMES);
        private final Row first = new Row(MOST_NAMES);
        private int fixedName;
        private int fixedValue;
        private int leftOut;
        private int limit;
        private int least;
        private int second;
        private int ways;
        private int below;
        private int common;

        /** Only CHOICES with VALUE a of NAME i (or NOT_ONE), as if TABLE t (or NOT_ONE) cost nothing. */
        void goThrough(Costs costs, int i, int a, int t) {
            fixedName = i;
            fixedValue = a;
            leftOut = t;
            limit = costs.top();
            least = limit;
            second = limit;
            ways = 0;
            below = 0;
            common = 0;
            goOn(costs, 0, costs.constant());
        }

        /** The NAMES below k have their VALUES, which cost so much. */
        private void goOn(Costs costs, int k, int cost) {
            if (cost >= limit || k > MOST_NAMES) {
                return;
            }
            if (k >= costs.names()) {
                note(costs, cost);
                return;
            }
            for (int a = 0; a < costs.valuesOf(k); a++) {
                if (k != fixedName || a == fixedValue) {
                    take(costs, k, a, cost);
                }
            }
        }

        private void take(Costs costs, int k, int a, int cost) {
            choice.set(k, a);
            goOn(costs, k + 1, costs.sum(cost, costs.costBeside(choice, k, k, a, leftOut)));
        }

        private void note(Costs costs, int total) {
            int bits = chosenBits(costs.names());
            below++;
            if (total < least) {
                second = least;
                least = total;
                ways = 1;
                common = bits;
                first.takeFrom(choice);
            } else if (total == least) {
                ways++;
                common &= bits;
            } else {
                second = Math.min(second, total);
            }
        }

        private int chosenBits(int names) {
            int bits = 0;
            for (int i = 0; i < names; i++) {
                bits |= 1 << (MOST_VALUES * i + choice.get(i));
            }
            return bits;
        }

        boolean hasFound() {
            return ways > 0;
        }

        boolean hasSecond() {
            return second < limit;
        }

        int leastTotal() {
            return least;
        }

        int waysOfLeast() {
            return ways;
        }

        int secondTotal() {
            return second;
        }

        int choicesBelowTop() {
            return below;
        }

        int commonValues() {
            return common;
        }

        int firstValueOf(int i) {
            return first.get(i);
        }
    }

    /** The search that leaves what can't be better, and counts its partial CHOICES. */
    private static final class Trial {
        private final Row choice = new Row(MOST_NAMES);
        private int best;
        private int tried;

        int countTries(Costs costs) {
            best = costs.top();
            tried = 0;
            goOn(costs, 0, costs.constant());
            return tried;
        }

        /** The NAMES below k have their VALUES, which cost so much. */
        private void goOn(Costs costs, int k, int cost) {
            if (k >= costs.names() || k >= MOST_NAMES) {
                return;
            }
            for (int a = 0; a < costs.valuesOf(k); a++) {
                tryValue(costs, k, a, cost);
            }
        }

        private void tryValue(Costs costs, int k, int a, int cost) {
            choice.set(k, a);
            tried++;
            int partial = costs.sum(cost, costs.costBeside(choice, k, k, a, NOT_ONE));
            int low = lowOf(costs, k, partial);
            if (low >= best) {
                return;
            }
            if (k + 1 == costs.names()) {
                best = low;
            } else {
                goOn(costs, k + 1, partial);
            }
        }

        /** LOW of the partial CHOICE of the NAMES up to k, which costs so much itself. */
        private int lowOf(Costs costs, int k, int partial) {
            int low = partial;
            for (int j = k + 1; j < costs.names(); j++) {
                low = costs.sum(low, leastBeside(costs, k, j));
            }
            return low;
        }

        private int leastBeside(Costs costs, int k, int j) {
            int least = costs.top();
            for (int b = 0; b < costs.valuesOf(j); b++) {
                least = Math.min(least, costs.costBeside(choice, k + 1, j, b, NOT_ONE));
            }
            return least;
        }
    }
}
