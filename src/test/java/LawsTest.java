import java.util.ArrayList;
import java.util.Arrays;
import java.util.List;
import java.util.Random;

/** What follows from the document for all costs, asked of random ones by the public calls alone: no model tells it. */
public final class LawsTest extends Edges {
    private static final int CASES = 250;

    public static void main(String[] args) {
        run(LawsTest.class);
    }

    /** A random TEXT and changes behind it, made anew for each question: an object has 512 calls. */
    private static final class Case {
        final Random random;
        final int top;
        final int[] sizes;
        final List<int[]> tables = new ArrayList<>();
        final List<String> items = new ArrayList<>();
        final List<int[]> changes = new ArrayList<>();

        Case(int seed) {
            random = new Random(seed);
            top = random.nextInt(3) == 0 ? 1 + random.nextInt(99) : 1 + random.nextInt(15);
            sizes = new int[1 + random.nextInt(3)];
            for (int i = 0; i < sizes.length; i++) {
                sizes[i] = 2 + random.nextInt(3);
            }
            tellItems();
        }

        private void tellItems() {
            for (int j = 1; j < sizes.length; j++) {
                for (int i = 0; i < j; i++) {
                    if (random.nextInt(4) != 0) {
                        items.add("b" + i + "," + j + "," + cost());
                        tables.add(new int[] {i, j});
                    }
                }
            }
            for (int k = random.nextInt(9); k > 0; k--) {
                int i = random.nextInt(sizes.length);
                items.add("u" + i + "," + random.nextInt(sizes[i]) + "," + cost());
            }
            for (int k = tables.isEmpty() ? 0 : random.nextInt(7); k > 0; k--) {
                int t = random.nextInt(tables.size());
                items.add("c" + t + "," + valueOn(t, 0) + "," + valueOn(t, 1) + "," + cost());
            }
        }

        private int cost() {
            return Math.min(99, random.nextInt(random.nextInt(4) == 0 ? top + 3 : top / 2 + 2));
        }

        private int valueOn(int t, int side) {
            return random.nextInt(sizes[tables.get(t)[side]]);
        }

        String text() {
            StringBuilder s = new StringBuilder("t").append(top).append(';');
            for (int size : sizes) {
                s.append('v').append(size).append(';');
            }
            for (String item : items) {
                s.append(item).append(';');
            }
            return s.toString();
        }

        SoftCosts made() {
            return made(changes.size());
        }

        /** With the first changes alone. */
        SoftCosts made(int first) {
            SoftCosts x = laid(text());
            for (int[] change : changes.subList(0, first)) {
                call(x, change);
            }
            return x;
        }

        void keepThoseThatAreDone() {
            SoftCosts x = made(0);
            changes.removeIf(change -> call(x, change) == NO);
        }

        void grown(int times) {
            for (int k = 0; k < times; k++) {
                int i = random.nextInt(sizes.length);
                changes.add(new int[] {0, i, random.nextInt(sizes[i]), 1 + random.nextInt(3)});
            }
        }

        void moved(int times) {
            for (int k = 0; k < times; k++) {
                changes.add(randomMove());
            }
        }

        private int[] randomMove() {
            int x = 1 + random.nextInt(random.nextInt(3) == 0 ? Math.max(2, top / 2) : 2);
            if (tables.isEmpty() || random.nextInt(4) == 0) {
                return new int[] {3, random.nextInt(sizes.length), x};
            }
            int t = random.nextInt(tables.size());
            int side = random.nextInt(2);
            return new int[] {1 + random.nextInt(2), t, side, valueOn(t, side), x};
        }

        void swept(int times) {
            for (int k = 0; k < times; k++) {
                changes.add(random.nextInt(3) == 0
                    ? new int[] {5, random.nextInt(3)} : new int[] {4, random.nextInt(3), 1 + random.nextInt(2)});
            }
        }
    }

    private static int call(SoftCosts x, int[] c) {
        switch (c[0]) {
            case 0: return x.grow(c[1], c[2], c[3]);
            case 1: return x.project(c[1], c[2], c[3], c[4]);
            case 2: return x.extend(c[1], c[2], c[3], c[4]);
            case 3: return x.raise(c[1], c[2]);
            case 4: return x.sweep(c[1], c[2]);
            default: return x.settle(c[1]);
        }
    }

    private static int[] totalsOf(SoftCosts x) {
        return Arrays.stream(totals(x).split(" ")).mapToInt(Integer::parseInt).toArray();
    }

    /** The VALUE of a NAME in each CHOICE, in the order of the TOTALS. */
    private static int valueIn(int choice, int[] sizes, int name) {
        int rest = choice;
        for (int i = sizes.length - 1; i > name; i--) {
            rest /= sizes[i];
        }
        return rest % sizes[name];
    }

    /** All costs: the picture without what is counted of changes and letters. */
    private static String costs(SoftCosts x) {
        String all = picture(x);
        return x.count(3) + all.substring(all.indexOf(';'), all.indexOf(" fault"));
    }

    private static Case busyCase(int seed) {
        Case c = new Case(seed);
        c.grown(c.random.nextInt(5));
        c.moved(c.random.nextInt(12));
        if (seed % 3 == 0) {
            c.swept(1 + c.random.nextInt(2));
            c.moved(c.random.nextInt(6));
        }
        return c;
    }

    // ---- told

    @Says("FAULT: the place of the first letter of the first ITEM that is not so")
    static void promise04_theFaultOfEachBeginning() {
        for (int seed = 0; seed < CASES; seed++) {
            Case c = new Case(seed);
            StringBuilder text = new StringBuilder(c.text());
            text.setLength(Math.min(200, text.length()));
            text.setCharAt(c.random.nextInt(text.length()), "tvubc019,; x".charAt(c.random.nextInt(12)));
            int whole = told(new SoftCosts(), text.toString()).fault();
            SoftCosts x = new SoftCosts();
            int item = 0;
            for (int k = 0; k < text.length(); k++) {
                x.write(text.charAt(k));
                boolean found = whole != NONE && k >= whole;
                boolean ended = text.charAt(k) == ';';
                due(text.substring(0, k + 1), x.fault(), found ? whole : ended ? NONE : item);
                item = ended && !found ? k + 1 : item;
            }
            holds("a FAULT begins an ITEM: " + text, whole <= 0 || text.charAt(whole - 1) == ';');
        }
    }

    @Says({"LAID: how many NAMES;", "THE TEXT stays when it is LAID."})
    static void promise05_laidAgainItIsAsAtFirst() {
        for (int seed = 0; seed < CASES; seed++) {
            Case c = busyCase(seed);
            SoftCosts x = c.made();
            x.choose(0, 1);
            due("lay of " + c.text(), x.lay(), c.sizes.length);
            like("laid again", picture(x), picture(laid(c.text())));
        }
    }

    // ---- costs

    @Says({"VALUES that are SHUT, as bits (2)", "its least SINGLE cost (3)."})
    static void promise06_asItsSinglesAre() {
        for (int seed = 0; seed < CASES; seed++) {
            SoftCosts x = busyCase(seed).made();
            int shutInAll = 0;
            for (int i = 0; i < x.count(0); i++) {
                int least = FAR;
                int shut = 0;
                for (int a = 0; a < x.name(i, 0); a++) {
                    least = Math.min(least, x.single(i, a));
                    shut |= x.count(3) + x.single(i, a) >= x.count(2) ? 1 << a : 0;
                }
                due("least of " + seed, x.name(i, 3), least);
                due("SHUT of " + seed, x.name(i, 2), shut);
                shutInAll += Integer.bitCount(shut);
            }
            due("SHUT in all of " + seed, x.count(4), shutInAll);
        }
    }

    @Says("the least cost of a PAIR (2), the greatest (3).")
    static void promise08_asItsPairsAre() {
        for (int seed = 0; seed < CASES; seed++) {
            SoftCosts x = busyCase(seed).made();
            for (int t = 0; t < x.count(1); t++) {
                int least = FAR;
                int greatest = -1;
                for (int a = 0; a < x.name(x.table(t, 0), 0); a++) {
                    for (int b = 0; b < x.name(x.table(t, 1), 0); b++) {
                        least = Math.min(least, x.pair(t, a, b));
                        greatest = Math.max(greatest, x.pair(t, a, b));
                    }
                }
                due("least of " + seed, x.table(t, 2), least);
                due("greatest of " + seed, x.table(t, 3), greatest);
                holds("0 to TOP", least >= 0 && greatest <= x.count(2));
            }
        }
    }

    // ---- moved

    @Says("so that no TOTAL becomes another one:")
    static void promise13_movesLeaveAllTotals() {
        for (int seed = 0; seed < CASES; seed++) {
            Case c = new Case(seed);
            c.grown(c.random.nextInt(6));
            String ahead = totals(c.made());
            c.moved(40);
            like("TOTALS of " + seed, totals(c.made()), ahead);
        }
    }

    @Says({"PROJECTED from a TABLE to a VALUE of one of its NAMES:", "EXTENDED from a VALUE of one of its NAMES to a TABLE:"})
    static void promise14_projectedBackAllIsAsItWas() {
        int moved = 0;
        for (int seed = 0; seed < CASES; seed++) {
            Case c = new Case(seed);
            SoftCosts x = c.made();
            for (int t = 0; t < c.tables.size(); t++) {
                int side = c.random.nextInt(2);
                int a = c.valueOn(t, side);
                int single = x.single(c.tables.get(t)[side], a);
                if (single == 0 || single == c.top || x.table(t, 3) + single >= c.top) {
                    continue;
                }
                moved++;
                String ahead = costs(c.made());
                SoftCosts y = c.made();
                due("extend", y.extend(t, side, a, single), 0);
                due("project", y.project(t, side, a, single), single);
                like("there and back in " + seed, costs(y), ahead);
            }
        }
        holds("some were moved: " + moved, moved > 50);
    }

    @Says("n SWEEPS (1 to 9) of a kind are done")
    static void promise16_nTimesOne() {
        for (int seed = 0; seed < CASES; seed++) {
            Case c = busyCase(seed);
            int kind = c.random.nextInt(3);
            int n = 1 + c.random.nextInt(9);
            SoftCosts x = c.made();
            SoftCosts y = c.made();
            int constant = 0;
            for (int k = 0; k < n; k++) {
                constant = y.sweep(kind, 1);
            }
            due("sweep(" + kind + "," + n + ") of " + seed, x.sweep(kind, n), constant);
            due("the CONSTANT", x.count(3), constant);
            like("costs of " + seed, costs(x), costs(y));
        }
    }

    @Says("so that no TOTAL becomes another one:")
    static void promise16_sweepsLeaveAllTotals() {
        for (int seed = 0; seed < CASES; seed++) {
            Case c = busyCase(seed);
            String ahead = totals(c.made());
            c.swept(6);
            like("TOTALS of " + seed, totals(c.made()), ahead);
        }
    }

    @Says({"SETTLED: how many SWEEPS were done that changed a cost (0 to 20).",
        "till one changes no cost (all are behind it as they were ahead of it), or 20 are done."})
    static void promise17_asManySweepsAsItTells() {
        for (int seed = 0; seed < CASES; seed++) {
            Case c = busyCase(seed);
            int kind = c.random.nextInt(3);
            SoftCosts x = c.made();
            int done = x.settle(kind);
            String settled = costs(x);
            SoftCosts y = c.made();
            String last = "";
            for (int k = 0; k < done; k++) {
                last = k == done - 1 ? costs(y) : last;
                y.sweep(kind, 1);
            }
            holds("the last one changed a cost in " + seed, done == 0 || !last.equals(settled));
            SoftCosts z = c.made();
            for (int k = 0; k <= done; k++) {
                z.sweep(kind, 1);
            }
            like("one more changes none in " + seed, costs(z), settled);
            due("settle again", z.settle(kind), 0);
        }
    }

    @Says("What the CONSTANT would be, were all SETTLED by a SWEEP (nothing changes).")
    static void promise18_theConstantBehindSettle() {
        for (int seed = 0; seed < CASES; seed++) {
            Case c = busyCase(seed);
            int kind = c.random.nextInt(3);
            SoftCosts x = c.made();
            int constant = x.count(3);
            int bound = x.bound(kind);
            holds("no less than it is, no more than any TOTAL in " + seed,
                bound >= constant && bound <= Arrays.stream(totalsOf(c.made())).min().getAsInt());
            x.settle(kind);
            due("bound(" + kind + ") of " + seed, bound, x.count(3));
        }
    }

    @Says({"UNDONE is the latest change", "(the last 6 can be"})
    static void promise19_backToEachOfTheLastSix() {
        for (int seed = 0; seed < CASES; seed++) {
            Case c = busyCase(seed);
            c.grown(2);
            c.keepThoseThatAreDone();
            int changes = c.changes.size();
            int most = Math.min(6, changes);
            for (int undone = 1; undone <= most; undone++) {
                SoftCosts x = c.made(changes);
                due("changes", x.count(5), most);
                for (int k = 1; k <= undone; k++) {
                    due("undo in " + seed, x.undo(), most - k);
                }
                like(undone + " undone in " + seed, costs(x), costs(c.made(changes - undone)));
            }
            SoftCosts x = c.made(changes);
            for (int k = 0; k < most; k++) {
                x.undo();
            }
            due("no more in " + seed, x.undo(), NO);
        }
    }

    // ---- what is best

    @Says({"BEST: of all CHOICES of a TOTAL below TOP one of the least, of several the first",
        "BEST: its TOTAL (i = -1), how many CHOICES there are of that TOTAL (i = -2), its VALUE of NAME i."})
    static void promise20_asTheTotalsAre() {
        for (int seed = 0; seed < CASES; seed++) {
            Case c = busyCase(seed);
            int[] all = totalsOf(c.made());
            int least = Arrays.stream(all).min().getAsInt();
            boolean none = least == c.top;
            SoftCosts x = c.made();
            due("TOTAL of " + seed, x.best(-1), none ? NONE : least);
            due("how many in " + seed, x.best(-2), none ? NONE : (int) Arrays.stream(all).filter(v -> v == least).count());
            int first = 0;
            while (all[first] != least) {
                first++;
            }
            for (int i = 0; i < c.sizes.length; i++) {
                due("VALUE in " + seed, x.best(i), none ? NONE : valueIn(first, c.sizes, i));
            }
        }
    }

    @Says({"The least TOTAL of CHOICES that is above that of BEST and below TOP (what = 0)", "how many CHOICES are below TOP (1)."})
    static void promise21_asTheTotalsAre() {
        for (int seed = 0; seed < CASES; seed++) {
            Case c = busyCase(seed);
            int[] unlike = Arrays.stream(totalsOf(c.made())).filter(v -> v < c.top).sorted().distinct().toArray();
            int below = (int) Arrays.stream(totalsOf(c.made())).filter(v -> v < c.top).count();
            SoftCosts x = c.made();
            due("next of " + seed, x.next(0), unlike.length > 1 ? unlike[1] : NONE);
            due("how many of " + seed, x.next(1), below);
        }
    }

    @Says("BACKBONE: VALUES that all CHOICES of that TOTAL have")
    static void promise22_asTheTotalsAre() {
        for (int seed = 0; seed < CASES; seed++) {
            Case c = busyCase(seed);
            int[] all = totalsOf(c.made());
            int least = Arrays.stream(all).min().getAsInt();
            int common = -1;
            for (int k = 0; k < all.length; k++) {
                int bits = 0;
                for (int i = 0; i < c.sizes.length; i++) {
                    bits |= 1 << 4 * i + valueIn(k, c.sizes, i);
                }
                common = all[k] == least ? common & bits : common;
            }
            due("backbone of " + seed, c.made().backbone(), least == c.top ? NONE : common);
        }
    }

    @Says("WITH a VALUE: the least TOTAL of CHOICES that have it.")
    static void promise23_asTheTotalsAre() {
        for (int seed = 0; seed < CASES; seed++) {
            Case c = busyCase(seed);
            int[] all = totalsOf(c.made());
            SoftCosts x = c.made();
            for (int i = 0; i < c.sizes.length; i++) {
                for (int a = 0; a < c.sizes[i]; a++) {
                    int least = c.top;
                    for (int k = 0; k < all.length; k++) {
                        least = valueIn(k, c.sizes, i) == a ? Math.min(least, all[k]) : least;
                    }
                    due("with(" + i + "," + a + ") of " + seed, x.with(i, a), least == c.top ? NONE : least);
                }
            }
        }
    }

    @Says("WITHOUT a TABLE: the least TOTAL of CHOICES, were all its costs 0.")
    static void promise24_asIfToldSo() {
        for (int seed = 0; seed < CASES; seed++) {
            Case c = new Case(seed);
            c.grown(c.random.nextInt(8));
            for (int t = 0; t < c.tables.size(); t++) {
                int without = c.made().without(t);
                Case d = new Case(seed);
                String ends = "b" + c.tables.get(t)[0] + "," + c.tables.get(t)[1] + ",";
                String own = "c" + t + ",";
                d.items.removeIf(item -> item.startsWith(own));
                d.items.replaceAll(item -> item.startsWith(ends) ? ends + "0" : item);
                d.changes.addAll(c.changes);
                due("without(" + t + ") of " + c.text(), without, d.made().best(-1));
            }
        }
    }

    @Says({"TRIES: how many partial CHOICES there were (VALUES of NAME 0 alone, too).",
        "LOW of it: the SUM of the CONSTANT, SINGLE costs of its VALUES, costs of PAIRS of two of them,"})
    static void promise25_raisedTheTriesStay() {
        for (int seed = 0; seed < CASES; seed++) {
            Case c = busyCase(seed);
            SoftCosts x = c.made();
            int tries = x.tries();
            int partial = 0;
            int most = 0;
            for (int i = 0; i < c.sizes.length; i++) {
                partial = (i == 0 ? 1 : partial) * c.sizes[i];
                most += partial;
            }
            holds("VALUES of NAME 0 at least, all at most, in " + seed, tries >= c.sizes[0] && tries <= most);
            // what goes from a NAME to the CONSTANT is in LOW both times; what is SHUT makes LOW TOP both times
            x.sweep(NODES, 2);
            due("tries behind a SWEEP of NODES in " + seed, x.tries(), tries);
        }
    }
}
