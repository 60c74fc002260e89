import java.util.Random;

/** Random runs of calls, each answer compared with the model's. */
public final class ModelTest {
    private static final int RUNS = 1500;
    private static final int MOST_CALLS = 512;

    private final Check check;
    private final Random random;
    private final int run;
    private final SoftCosts real = new SoftCosts();
    private final Model model = new Model();
    private final StringBuilder said = new StringBuilder();
    private int calls;

    private ModelTest(Check check, int run) {
        this.check = check;
        this.run = run;
        this.random = new Random(run);
    }

    public static void main(String[] args) {
        Check check = new Check();
        for (int run = 0; run < RUNS; run++) {
            new ModelTest(check, run).go();
        }
        check.end();
    }

    private void go() {
        if (run % 4 != 0) {
            tellText(randomText());
            call(4);
        }
        while (calls < MOST_CALLS - 180) {
            call(kindOfCall());
        }
        compareCosts();
    }

    private int kindOfCall() {
        int k = random.nextInt(1000);
        if (k < 4) {
            return 4;
        }
        // the calls that go through all choices are dear in the model
        return k < 60 ? 19 + random.nextInt(6) : k < 900 ? 5 + random.nextInt(14) : random.nextInt(26);
    }

    private int any(int from, int to) {
        return random.nextInt(40) == 0 ? random.nextInt(7) * 37 - 111 : from + random.nextInt(to - from + 1);
    }

    private int name() {
        return any(-1, 6);
    }

    private int value() {
        return any(0, 3);
    }

    private int tableOf() {
        return any(0, Math.max(1, model.count(1)));
    }

    private int step() {
        int k = random.nextInt(20);
        return k == 0 ? any(-1, 101) : k < 4 ? 1 + random.nextInt(20) : 1 + random.nextInt(4);
    }

    private void due(String call, int got, int want) {
        calls++;
        said.append(call).append(' ');
        check.due("run " + run + " with " + said + "at " + calls + ": " + call, got, want);
        if (got != want) {
            check.end();
        }
    }

    private void tellText(String text) {
        said.append('"').append(text).append("\" ");
        for (int k = 0; k < text.length(); k++) {
            check.due("run " + run + ": write", real.write(text.charAt(k)), model.write(text.charAt(k)));
            calls++;
        }
    }

    private String randomText() {
        StringBuilder text = new StringBuilder();
        int names = 1 + random.nextInt(6);
        int most = random.nextInt(3) == 0 ? 99 : 1 + random.nextInt(12);
        if (random.nextInt(6) != 0) {
            text.append('t').append(1 + random.nextInt(random.nextInt(3) == 0 ? 99 : 15)).append(';');
        }
        for (int i = 0; i < names; i++) {
            text.append('v').append(2 + random.nextInt(3)).append(';');
        }
        int tables = 0;
        int wanted = 5 + random.nextInt(30);
        for (int k = 0; k < wanted && text.length() < 180; k++) {
            int cost = random.nextInt(most + 1);
            int i = random.nextInt(names);
            int j = random.nextInt(names);
            int kind = random.nextInt(6);
            if (kind < 2) {
                text.append('u').append(i).append(',').append(random.nextInt(2)).append(',').append(cost).append(';');
            } else if (kind < 4 && i < j && text.indexOf("b" + i + "," + j) < 0 && tables < 9) {
                text.append('b').append(i).append(',').append(j).append(',').append(cost).append(';');
                tables++;
            } else if (tables > 0) {
                text.append('c').append(random.nextInt(tables)).append(',').append(random.nextInt(2)).append(',');
                text.append(random.nextInt(2)).append(',').append(cost).append(';');
            }
        }
        return text.toString();
    }

    private void call(int kind) {
        int i = name();
        int a = value();
        int b = value();
        int t = tableOf();
        int x = step();
        int side = any(0, 1);
        int what = any(-1, 4);
        int sweep = any(0, 2);
        int n = any(1, 9);
        switch (kind) {
            case 0: due("write(" + (x + 31) + ")", real.write(x + 31), model.write(x + 31)); break;
            case 1: due("write(" + (x + 90) + ")", real.write(x + 90), model.write(x + 90)); break;
            case 2: if (random.nextInt(10) == 0) due("wipe()", real.wipe(), model.wipe()); break;
            case 3: due("fault()", real.fault(), model.fault()); break;
            case 4: due("lay()", real.lay(), model.lay()); break;
            case 5: due("name(" + i + "," + what + ")", real.name(i, what), model.name(i, what)); break;
            case 6: due("single(" + i + "," + a + ")", real.single(i, a), model.single(i, a)); break;
            case 7: due("table(" + t + "," + what + ")", real.table(t, what), model.table(t, what)); break;
            case 8: due("pair(" + t + "," + a + "," + b + ")", real.pair(t, a, b), model.pair(t, a, b)); break;
            case 9: due("grow(" + i + "," + a + "," + x + ")", real.grow(i, a, x), model.grow(i, a, x)); break;
            case 10: due("choose(" + i + "," + a + ")", real.choose(i, a), model.choose(i, a)); break;
            case 11: due("total()", real.total(), model.total()); break;
            case 12:
                due("project(" + t + "," + side + "," + a + "," + x + ")", real.project(t, side, a, x), model.project(t, side, a, x));
                break;
            case 13:
                due("extend(" + t + "," + side + "," + a + "," + x + ")", real.extend(t, side, a, x), model.extend(t, side, a, x));
                break;
            case 14: due("raise(" + i + "," + x + ")", real.raise(i, x), model.raise(i, x)); break;
            case 15:
                if (random.nextInt(4) == 0) due("sweep(" + sweep + "," + n + ")", real.sweep(sweep, n), model.sweep(sweep, n));
                break;
            case 16: if (random.nextInt(6) == 0) due("settle(" + sweep + ")", real.settle(sweep), model.settle(sweep)); break;
            case 17: due("bound(" + sweep + ")", real.bound(sweep), model.bound(sweep)); break;
            case 18: due("undo()", real.undo(), model.undo()); break;
            default: callBest(kind, i, a, t, what); break;
        }
    }

    private void callBest(int kind, int i, int a, int t, int what) {
        switch (kind) {
            case 19: due("best(" + (i - 2) + ")", real.best(i - 2), model.best(i - 2)); break;
            case 20: due("next(" + what + ")", real.next(what), model.next(what)); break;
            case 21: due("backbone()", real.backbone(), model.backbone()); break;
            case 22: due("with(" + i + "," + a + ")", real.with(i, a), model.with(i, a)); break;
            case 23: due("without(" + t + ")", real.without(t), model.without(t)); break;
            case 24: due("tries()", real.tries(), model.tries()); break;
            default: due("count(" + (what + 2) + ")", real.count(what + 2), model.count(what + 2)); break;
        }
    }

    private void compareCosts() {
        for (int k = 2; k < 7; k++) {
            due("count(" + k + ")", real.count(k), model.count(k));
        }
        for (int i = 0; i < model.count(0); i++) {
            for (int a = 0; a < model.name(i, 0); a++) {
                due("single(" + i + "," + a + ")", real.single(i, a), model.single(i, a));
            }
        }
        for (int t = 0; t < model.count(1); t++) {
            for (int a = 0; a < 4; a++) {
                for (int b = 0; b < 4; b++) {
                    due("pair(" + t + "," + a + "," + b + ")", real.pair(t, a, b), model.pair(t, a, b));
                }
            }
        }
    }
}
