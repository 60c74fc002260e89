import java.util.function.ToIntBiFunction;

/** Every call with every combination of edge numbers, in several states: answered as the model does, nothing thrown. */
public final class ArgumentsTest {
    private static final int[] MANY = {Integer.MIN_VALUE, -65536, -5, -4, -3, -2, -1, 0, 1, 2, 3, 4, 5, 6, 7, 8, 9, 10, 11,
        19, 20, 21, 31, 32, 98, 99, 100, 126, 127, 128, 65536, Integer.MAX_VALUE};
    private static final int[] FEW = {Integer.MIN_VALUE, -1, 0, 1, 2, 3, 4, 8, 9, 99, 100, Integer.MAX_VALUE};

    /** The first, the least, the most that can be, one where no CHOICE is below TOP. */
    private static final String[] TEXTS = {Model.FIRST, "t1;v2;",
        "t99;v4;v4;v4;v3;v3;v2;b0,1,9;b0,2,8;b0,3,7;b0,4,6;b0,5,5;b1,2,4;b1,3,3;b1,4,2;b4,5,1;u5,1,99;u4,0,1;u4,1,1;u4,2,1;",
        "t3;v2;v2;u0,0,3;u0,1,5;b0,1,1;"};

    /** An object is used for 512 calls: some 200 for its text, the rest for what is asked. */
    private static final int CALLS = 300;

    private static final Check CHECK = new Check();
    private static SoftCosts real;
    private static Model model;
    private static String text;
    private static int calls;

    public static void main(String[] args) {
        for (String each : TEXTS) {
            text = each;
            begin();
            ofNone();
            ofOne();
            ofTwo();
            ofThree();
            ofFour();
        }
        CHECK.end();
    }

    private static void begin() {
        real = new SoftCosts();
        model = new Model();
        for (int k = 0; k < text.length(); k++) {
            real.write(text.charAt(k));
            model.write(text.charAt(k));
        }
        CHECK.due("lay of " + text, real.lay(), model.lay());
        calls = 0;
    }

    private static void ask(String call, ToIntBiFunction<SoftCosts, Model> answers) {
        if (calls == CALLS) {
            begin();
        }
        calls++;
        CHECK.due(call + " in " + text, answers.applyAsInt(real, model), 1);
    }

    private static int alike(int got, int want) {
        return got == want ? 1 : 0;
    }

    private static void ofNone() {
        ask("fault", (x, m) -> alike(x.fault(), m.fault()));
        ask("total", (x, m) -> alike(x.total(), m.total()));
        ask("undo", (x, m) -> alike(x.undo(), m.undo()));
        ask("backbone", (x, m) -> alike(x.backbone(), m.backbone()));
        ask("tries", (x, m) -> alike(x.tries(), m.tries()));
        ask("wipe", (x, m) -> alike(x.wipe(), m.wipe()));
        ask("lay", (x, m) -> alike(x.lay(), m.lay()));
    }

    private static void ofOne() {
        for (int a : MANY) {
            ask("write " + a, (x, m) -> alike(x.write(a), m.write(a)));
            ask("settle " + a, (x, m) -> alike(x.settle(a), m.settle(a)));
            ask("bound " + a, (x, m) -> alike(x.bound(a), m.bound(a)));
            ask("best " + a, (x, m) -> alike(x.best(a), m.best(a)));
            ask("next " + a, (x, m) -> alike(x.next(a), m.next(a)));
            ask("without " + a, (x, m) -> alike(x.without(a), m.without(a)));
            ask("count " + a, (x, m) -> alike(x.count(a), m.count(a)));
        }
    }

    private static void ofTwo() {
        for (int a : MANY) {
            for (int b : MANY) {
                String at = " " + a + " " + b;
                ask("name" + at, (x, m) -> alike(x.name(a, b), m.name(a, b)));
                ask("single" + at, (x, m) -> alike(x.single(a, b), m.single(a, b)));
                ask("table" + at, (x, m) -> alike(x.table(a, b), m.table(a, b)));
                ask("choose" + at, (x, m) -> alike(x.choose(a, b), m.choose(a, b)));
                ask("raise" + at, (x, m) -> alike(x.raise(a, b), m.raise(a, b)));
                ask("sweep" + at, (x, m) -> alike(x.sweep(a, b), m.sweep(a, b)));
                ask("with" + at, (x, m) -> alike(x.with(a, b), m.with(a, b)));
            }
        }
    }

    private static void ofThree() {
        for (int a : FEW) {
            for (int b : FEW) {
                for (int c : MANY) {
                    String at = " " + a + " " + b + " " + c;
                    ask("pair" + at, (x, m) -> alike(x.pair(a, b, c), m.pair(a, b, c)));
                    ask("grow" + at, (x, m) -> alike(x.grow(a, b, c), m.grow(a, b, c)));
                }
            }
        }
    }

    private static void ofFour() {
        for (int a : FEW) {
            for (int b : FEW) {
                for (int c : FEW) {
                    for (int d : FEW) {
                        String at = " " + a + " " + b + " " + c + " " + d;
                        ask("project" + at, (x, m) -> alike(x.project(a, b, c, d), m.project(a, b, c, d)));
                        ask("extend" + at, (x, m) -> alike(x.extend(a, b, c, d), m.extend(a, b, c, d)));
                    }
                }
            }
        }
    }
}
