import java.util.ArrayDeque;
import java.util.ArrayList;
import java.util.Arrays;
import java.util.List;
import java.util.regex.Matcher;
import java.util.regex.Pattern;

/** The document said a second time, with no care for speed or room, to compare answers with. */
final class Model {
    static final int BAD = -1, NO = -2, FULL = -3, NONE = -4;
    static final String FIRST =
        "t20;v3;v3;v2;v3;u0,0,2;u1,2,1;u3,1,4;b0,1,5;b1,2,3;b0,3,7;b2,3,9;c1,2,1,6;c3,0,2,4;";

    /** All costs at one time. */
    static final class State {
        int constant;
        int[][] single;
        int[][][] pair;

        State copy() {
            State s = new State();
            s.constant = constant;
            s.single = new int[single.length][];
            for (int i = 0; i < single.length; i++) s.single[i] = single[i].clone();
            s.pair = new int[pair.length][][];
            for (int t = 0; t < pair.length; t++) {
                s.pair[t] = new int[pair[t].length][];
                for (int a = 0; a < pair[t].length; a++) s.pair[t][a] = pair[t][a].clone();
            }
            return s;
        }

        boolean same(State o) {
            return constant == o.constant && Arrays.deepEquals(single, o.single) && Arrays.deepEquals(pair, o.pair);
        }
    }

    /** What a TEXT tells. */
    static final class Told {
        int fault = NONE;
        int top = 20;
        List<Integer> sizes = new ArrayList<>();
        List<int[]> ends = new ArrayList<>();
        List<int[]> singles = new ArrayList<>();
        List<int[][]> pairs = new ArrayList<>();
    }

    private String text = "";
    private int top;
    private int[][] ends;
    private State now;
    private int[] choice;
    private final ArrayDeque<State> past = new ArrayDeque<>();

    Model() {
        take(read(FIRST));
    }

    // ---- told

    int write(int letter) {
        if (letter < 32 || letter > 126) return BAD;
        if (text.length() == 200) return FULL;
        text += (char) letter;
        return text.length();
    }

    int wipe() {
        int n = text.length();
        text = "";
        return n;
    }

    int fault() {
        return read(text).fault;
    }

    int lay() {
        Told told = read(text);
        if (told.fault != NONE || told.sizes.isEmpty()) return NO;
        take(told);
        return told.sizes.size();
    }

    private void take(Told told) {
        top = told.top;
        ends = told.ends.toArray(new int[0][]);
        now = new State();
        now.single = told.singles.toArray(new int[0][]);
        now.pair = told.pairs.toArray(new int[0][][]);
        now = now.copy();
        for (int[] row : now.single) for (int a = 0; a < row.length; a++) row[a] = Math.min(top, row[a]);
        for (int[][] table : now.pair)
            for (int[] row : table) for (int b = 0; b < row.length; b++) row[b] = Math.min(top, row[b]);
        choice = new int[told.sizes.size()];
        past.clear();
    }

    private static final Pattern ITEM = Pattern.compile("([tv])(\\d\\d?)|([ub])(\\d\\d?),(\\d\\d?),(\\d\\d?)|(c)(\\d\\d?),(\\d\\d?),(\\d\\d?),(\\d\\d?)");

    private static Told read(String text) {
        Told told = new Told();
        int start = 0;
        while (start < text.length()) {
            int end = text.indexOf(';', start);
            if (end < 0 || !item(told, text.substring(start, end))) {
                told.fault = start;
                return told;
            }
            start = end + 1;
        }
        return told;
    }

    private static boolean item(Told told, String item) {
        Matcher m = ITEM.matcher(item);
        if (!m.matches()) return false;
        String[] parts = item.substring(1).split(",");
        int[] n = new int[parts.length];
        for (int k = 0; k < n.length; k++) n[k] = Integer.parseInt(parts[k]);
        int names = told.sizes.size();
        switch (item.charAt(0)) {
            case 't':
                if (n[0] == 0) return false;
                told.top = n[0];
                return true;
            case 'v':
                if (n[0] < 2 || n[0] > 4 || names == 6) return false;
                told.sizes.add(n[0]);
                told.singles.add(new int[n[0]]);
                return true;
            case 'u':
                if (n[0] >= names || n[1] >= told.sizes.get(n[0])) return false;
                told.singles.get(n[0])[n[1]] = n[2];
                return true;
            case 'b':
                if (n[0] >= n[1] || n[1] >= names || told.ends.size() == 9) return false;
                for (int[] e : told.ends) if (e[0] == n[0] && e[1] == n[1]) return false;
                int[][] table = new int[told.sizes.get(n[0])][told.sizes.get(n[1])];
                for (int a = 0; a < table.length; a++)
                    for (int b = 0; b < table[a].length; b++) table[a][b] = a == b ? n[2] : 0;
                told.ends.add(new int[] {n[0], n[1]});
                told.pairs.add(table);
                return true;
            default:
                if (n[0] >= told.ends.size()) return false;
                int[][] of = told.pairs.get(n[0]);
                if (n[1] >= of.length || n[2] >= of[0].length) return false;
                of[n[1]][n[2]] = n[3];
                return true;
        }
    }

    // ---- costs

    private boolean isName(int i) {
        return 0 <= i && i < now.single.length;
    }

    private boolean isValue(int i, int a) {
        return isName(i) && 0 <= a && a < now.single[i].length;
    }

    private boolean isTable(int t) {
        return 0 <= t && t < ends.length;
    }

    private boolean isOn(int t, int side, int a) {
        return isTable(t) && (side == 0 || side == 1) && isValue(ends[t][side], a);
    }

    private static boolean isStep(int x) {
        return 1 <= x && x <= 99;
    }

    private int sum(int... costs) {
        return Math.min(top, Arrays.stream(costs).sum());
    }

    private int less(int c, int x) {
        return c == top ? c : c - x;
    }

    private boolean shut(int i, int a) {
        return sum(now.constant, now.single[i][a]) == top;
    }

    int name(int i, int what) {
        if (!isName(i) || what < 0 || what > 3) return BAD;
        if (what == 0) return now.single[i].length;
        if (what == 3) return Arrays.stream(now.single[i]).min().getAsInt();
        int bits = 0;
        if (what == 1) {
            for (int t = 0; t < ends.length; t++) if (ends[t][0] == i || ends[t][1] == i) bits += 1 << t;
        } else {
            for (int a = 0; a < now.single[i].length; a++) if (shut(i, a)) bits += 1 << a;
        }
        return bits;
    }

    int single(int i, int a) {
        return isValue(i, a) ? now.single[i][a] : BAD;
    }

    int table(int t, int what) {
        if (!isTable(t) || what < 0 || what > 3) return BAD;
        if (what < 2) return ends[t][what];
        int[] all = Arrays.stream(now.pair[t]).flatMapToInt(Arrays::stream).sorted().toArray();
        return what == 2 ? all[0] : all[all.length - 1];
    }

    int pair(int t, int a, int b) {
        return isOn(t, 0, a) && isOn(t, 1, b) ? now.pair[t][a][b] : BAD;
    }

    private void change() {
        past.addLast(now.copy());
        if (past.size() > 6) past.removeFirst();
    }

    int grow(int i, int a, int x) {
        if (!isValue(i, a) || !isStep(x)) return BAD;
        change();
        return now.single[i][a] = sum(now.single[i][a], x);
    }

    // ---- choices

    int choose(int i, int a) {
        if (!isValue(i, a)) return BAD;
        if (choice[i] == a) return NO;
        int had = choice[i];
        choice[i] = a;
        return had;
    }

    int total() {
        return totalOf(choice, -1);
    }

    private int totalOf(int[] values, int without) {
        int all = now.constant;
        for (int i = 0; i < values.length; i++) all += now.single[i][values[i]];
        for (int t = 0; t < ends.length; t++)
            if (t != without) all += now.pair[t][values[ends[t][0]]][values[ends[t][1]]];
        return Math.min(top, all);
    }

    // ---- moved

    private int[] pairsOf(int t, int side, int a) {
        if (side == 0) return now.pair[t][a].clone();
        int[] column = new int[now.pair[t].length];
        for (int k = 0; k < column.length; k++) column[k] = now.pair[t][k][a];
        return column;
    }

    private void setPairsOf(int t, int side, int a, int[] costs) {
        for (int k = 0; k < costs.length; k++) {
            if (side == 0) now.pair[t][a][k] = costs[k];
            else now.pair[t][k][a] = costs[k];
        }
    }

    private boolean projected(int t, int side, int a, int x) {
        int[] costs = pairsOf(t, side, a);
        if (Arrays.stream(costs).anyMatch(c -> c < x)) return false;
        setPairsOf(t, side, a, Arrays.stream(costs).map(c -> less(c, x)).toArray());
        int i = ends[t][side];
        now.single[i][a] = sum(now.single[i][a], x);
        return true;
    }

    private boolean extended(int t, int side, int a, int x) {
        int i = ends[t][side];
        if (now.single[i][a] < x) return false;
        now.single[i][a] = less(now.single[i][a], x);
        setPairsOf(t, side, a, Arrays.stream(pairsOf(t, side, a)).map(c -> sum(c, x)).toArray());
        return true;
    }

    private boolean raised(int i, int x) {
        if (Arrays.stream(now.single[i]).anyMatch(c -> c < x)) return false;
        now.single[i] = Arrays.stream(now.single[i]).map(c -> less(c, x)).toArray();
        now.constant = sum(now.constant, x);
        return true;
    }

    private int kept(boolean moved, State before, int answer) {
        if (!moved) return NO;
        past.addLast(before);
        if (past.size() > 6) past.removeFirst();
        return answer;
    }

    int project(int t, int side, int a, int x) {
        if (!isOn(t, side, a) || !isStep(x)) return BAD;
        State before = now.copy();
        boolean moved = projected(t, side, a, x);
        return kept(moved, before, now.single[ends[t][side]][a]);
    }

    int extend(int t, int side, int a, int x) {
        if (!isOn(t, side, a) || !isStep(x)) return BAD;
        State before = now.copy();
        boolean moved = extended(t, side, a, x);
        return kept(moved, before, now.single[ends[t][side]][a]);
    }

    int raise(int i, int x) {
        if (!isName(i) || !isStep(x)) return BAD;
        State before = now.copy();
        boolean moved = raised(i, x);
        return kept(moved, before, now.constant);
    }

    private static void must(boolean moved) {
        if (!moved) throw new IllegalStateException("a sweep asks for a move that can't be");
    }

    private void nodes() {
        for (int i = 0; i < now.single.length; i++) {
            int least = Arrays.stream(now.single[i]).min().getAsInt();
            if (least != 0) must(raised(i, least));
            for (int a = 0; a < now.single[i].length; a++) if (shut(i, a)) now.single[i][a] = top;
        }
    }

    private void spreadTop(int t) {
        for (int a = 0; a < now.pair[t].length; a++)
            for (int b = 0; b < now.pair[t][a].length; b++)
                if (now.single[ends[t][0]][a] == top || now.single[ends[t][1]][b] == top) now.pair[t][a][b] = top;
    }

    private void arcs() {
        for (int t = 0; t < ends.length; t++) {
            spreadTop(t);
            for (int side = 0; side < 2; side++)
                for (int a = 0; a < now.single[ends[t][side]].length; a++) {
                    int least = Arrays.stream(pairsOf(t, side, a)).min().getAsInt();
                    if (least != 0) must(projected(t, side, a, least));
                }
        }
        nodes();
    }

    private void directed() {
        for (int j = now.single.length - 1; j >= 0; j--)
            for (int t = 0; t < ends.length; t++) if (ends[t][1] == j) directedBy(t, ends[t][0], j);
        nodes();
    }

    private void directedBy(int t, int i, int j) {
        spreadTop(t);
        int[] p = new int[now.single[i].length];
        int[] e = new int[now.single[j].length];
        for (int a = 0; a < p.length; a++) {
            p[a] = top;
            for (int b = 0; b < e.length; b++) p[a] = Math.min(p[a], sum(now.pair[t][a][b], now.single[j][b]));
        }
        for (int b = 0; b < e.length; b++)
            for (int a = 0; a < p.length; a++) e[b] = Math.max(e[b], p[a] - now.pair[t][a][b]);
        for (int b = 0; b < e.length; b++) if (e[b] != 0) must(extended(t, 1, b, e[b]));
        for (int a = 0; a < p.length; a++) if (p[a] != 0) must(projected(t, 0, a, p[a]));
    }

    private void swept(int kind) {
        if (kind == 0) nodes();
        if (kind == 1) arcs();
        if (kind == 2) directed();
    }

    int sweep(int kind, int n) {
        if (kind < 0 || kind > 2 || n < 1 || n > 9) return BAD;
        change();
        for (int k = 0; k < n; k++) swept(kind);
        return now.constant;
    }

    private int settled(int kind) {
        int changed = 0;
        for (int done = 0; done < 20; done++) {
            State before = now.copy();
            swept(kind);
            if (now.same(before)) break;
            changed++;
        }
        return changed;
    }

    int settle(int kind) {
        if (kind < 0 || kind > 2) return BAD;
        change();
        return settled(kind);
    }

    int bound(int kind) {
        if (kind < 0 || kind > 2) return BAD;
        State before = now.copy();
        settled(kind);
        int constant = now.constant;
        now = before;
        return constant;
    }

    int undo() {
        if (past.isEmpty()) return NO;
        now = past.removeLast();
        return past.size();
    }

    // ---- what is best

    /** All CHOICES, the first ones first. */
    private List<int[]> choices() {
        List<int[]> all = new ArrayList<>();
        all.add(new int[0]);
        for (int[] row : now.single) {
            List<int[]> longer = new ArrayList<>();
            for (int[] c : all)
                for (int a = 0; a < row.length; a++) {
                    int[] d = Arrays.copyOf(c, c.length + 1);
                    d[c.length] = a;
                    longer.add(d);
                }
            all = longer;
        }
        return all;
    }

    private int least(List<int[]> of, int without) {
        int least = of.stream().mapToInt(c -> totalOf(c, without)).min().getAsInt();
        return least < top ? least : NONE;
    }

    private List<int[]> bests() {
        List<int[]> all = choices();
        int least = least(all, -1);
        all.removeIf(c -> totalOf(c, -1) != least);
        return all;
    }

    int best(int i) {
        if (i < -2 || i >= now.single.length) return BAD;
        List<int[]> bests = bests();
        if (bests.isEmpty()) return NONE;
        if (i == -1) return totalOf(bests.get(0), -1);
        return i == -2 ? bests.size() : bests.get(0)[i];
    }

    int next(int what) {
        if (what != 0 && what != 1) return BAD;
        int[] below = choices().stream().mapToInt(c -> totalOf(c, -1)).filter(c -> c < top).sorted().toArray();
        if (what == 1) return below.length;
        for (int c : below) if (c > below[0]) return c;
        return NONE;
    }

    int backbone() {
        List<int[]> bests = bests();
        if (bests.isEmpty()) return NONE;
        int bits = 0;
        for (int i = 0; i < now.single.length; i++)
            for (int a = 0; a < now.single[i].length; a++) {
                int name = i;
                int value = a;
                if (bests.stream().allMatch(c -> c[name] == value)) bits += 1 << (4 * i + a);
            }
        return bits;
    }

    int with(int i, int a) {
        if (!isValue(i, a)) return BAD;
        List<int[]> all = choices();
        all.removeIf(c -> c[i] != a);
        return least(all, -1);
    }

    int without(int t) {
        return isTable(t) ? least(choices(), t) : BAD;
    }

    private int tried;
    private int bestSoFar;

    int tries() {
        tried = 0;
        bestSoFar = top;
        tryFrom(new int[0]);
        return tried;
    }

    private void tryFrom(int[] partial) {
        int k = partial.length;
        for (int a = 0; a < now.single[k].length; a++) {
            int[] longer = Arrays.copyOf(partial, k + 1);
            longer[k] = a;
            tried++;
            if (low(longer) >= bestSoFar) continue;
            if (k + 1 == now.single.length) bestSoFar = totalOf(longer, -1);
            else tryFrom(longer);
        }
    }

    private int low(int[] partial) {
        int low = now.constant;
        for (int i = 0; i < partial.length; i++) low += now.single[i][partial[i]];
        for (int t = 0; t < ends.length; t++)
            if (ends[t][1] < partial.length) low += now.pair[t][partial[ends[t][0]]][partial[ends[t][1]]];
        for (int j = partial.length; j < now.single.length; j++) {
            int least = top;
            for (int b = 0; b < now.single[j].length; b++) {
                int cost = now.single[j][b];
                for (int t = 0; t < ends.length; t++)
                    if (ends[t][1] == j && ends[t][0] < partial.length) cost += now.pair[t][partial[ends[t][0]]][b];
                least = Math.min(least, cost);
            }
            low += least;
        }
        return Math.min(top, low);
    }

    int count(int what) {
        int shut = 0;
        for (int i = 0; i < now.single.length; i++) shut += Integer.bitCount(name(i, 2));
        int[] all = {now.single.length, ends.length, top, now.constant, shut, past.size(), text.length()};
        return what >= 0 && what < all.length ? all[what] : BAD;
    }
}
