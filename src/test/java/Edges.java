import java.lang.reflect.InvocationTargetException;
import java.lang.reflect.Method;
import java.util.ArrayList;
import java.util.Comparator;
import java.util.List;
import java.util.function.Supplier;
import java.util.function.ToIntFunction;

/** What the tests of the document's edges share: each method with @Says is a test of its own. */
abstract class Edges {
    protected static final int BAD = -1, NO = -2, FULL = -3, NONE = -4;
    protected static final int FAR = Integer.MAX_VALUE;
    protected static final int DEEP = Integer.MIN_VALUE;
    protected static final int NODES = 0, ARCS = 1, DIRECTED = 2;

    private static final Check CHECK = new Check();
    private static String test = "";

    protected Edges() {
    }

    static List<Method> testsOf(Class<?> tests) {
        List<Method> found = new ArrayList<>();
        for (Method m : tests.getDeclaredMethods()) {
            if (m.isAnnotationPresent(Says.class)) {
                found.add(m);
            }
        }
        found.sort(Comparator.comparing(Method::getName));
        return found;
    }

    protected static void run(Class<?> tests) {
        List<Method> all = testsOf(tests);
        for (Method m : all) {
            test = m.getName();
            try {
                m.invoke(null);
            } catch (InvocationTargetException e) {
                holds("threw " + e.getCause(), false);
            } catch (IllegalAccessException e) {
                holds("can't be run: " + e, false);
            }
        }
        System.out.println(all.size() + " tests");
        CHECK.end();
    }

    protected static void due(String what, long got, long want) {
        CHECK.due(test + ": " + what, got, want);
    }

    protected static void holds(String what, boolean is) {
        CHECK.holds(test + ": " + what, is);
    }

    // ---- objects to ask

    protected static SoftCosts told(SoftCosts x, String text) {
        for (int k = 0; k < text.length(); k++) {
            x.write(text.charAt(k));
        }
        return x;
    }

    protected static SoftCosts laid(String text) {
        SoftCosts x = told(new SoftCosts(), text);
        holds("lay of " + text, x.lay() > 0);
        return x;
    }

    /** Seven changes lie behind it, each of which changed a cost; another CHOICE than the first is told. */
    protected static SoftCosts busy() {
        SoftCosts x = laid("t10;v2;v3;u0,0,3;u0,1,1;u1,2,5;b0,1,4;c0,1,2,6;");
        x.choose(0, 1);
        x.choose(1, 2);
        x.grow(1, 0, 2);
        x.raise(0, 1);
        x.extend(0, 0, 0, 2);
        x.project(0, 0, 0, 1);
        x.grow(0, 1, 3);
        x.sweep(NODES, 1);
        x.settle(ARCS);
        return x;
    }

    /** No CHOICE is below TOP. */
    protected static SoftCosts hopeless() {
        return laid("t3;v2;v2;u0,0,3;u0,1,5;b0,1,1;");
    }

    // ---- what can be seen of an object

    protected static int chosen(SoftCosts x, int i) {
        int had = x.choose(i, 0);
        if (had > 0) {
            x.choose(i, had);
        }
        return had == NO ? 0 : had;
    }

    protected static String picture(SoftCosts x) {
        StringBuilder s = new StringBuilder();
        for (int what = 0; what < 7; what++) {
            s.append(what == 0 ? "count" : "").append(' ').append(x.count(what));
        }
        for (int i = 0; i < x.count(0); i++) {
            s.append("; name ").append(i);
            for (int what = 0; what < 4; what++) {
                s.append(' ').append(x.name(i, what));
            }
            s.append(" chosen ").append(chosen(x, i)).append(" singles");
            for (int a = 0; a < x.name(i, 0); a++) {
                s.append(' ').append(x.single(i, a));
            }
        }
        for (int t = 0; t < x.count(1); t++) {
            s.append("; table ").append(t);
            for (int what = 0; what < 4; what++) {
                s.append(' ').append(x.table(t, what));
            }
            s.append(" pairs ").append(rowOfPairs(x, t));
        }
        return s.append("; total ").append(x.total()).append(" fault ").append(x.fault()).toString();
    }

    private static String rowOfPairs(SoftCosts x, int t) {
        StringBuilder s = new StringBuilder();
        int lower = x.name(x.table(t, 0), 0);
        int higher = x.name(x.table(t, 1), 0);
        for (int a = 0; a < lower; a++) {
            for (int b = 0; b < higher; b++) {
                s.append(b > 0 ? " " : a > 0 ? "/" : "").append(x.pair(t, a, b));
            }
        }
        return s.toString();
    }

    /** The picture, and those behind each undo; nothing can be undone behind it. */
    protected static String story(SoftCosts x) {
        StringBuilder s = new StringBuilder(picture(x));
        for (int k = 0; k < 7; k++) {
            int more = x.undo();
            s.append(" | undo ").append(more);
            if (more < 0) {
                break;
            }
            s.append(' ').append(picture(x));
        }
        return s.toString();
    }

    protected static void like(String what, String got, String want) {
        holds(what + "\n  is       " + got + "\n  should be " + want, got.equals(want));
    }

    /** The answer is due, and all that can be seen is as without the call, also behind each undo. */
    protected static void leaves(Supplier<SoftCosts> made, String what, ToIntFunction<SoftCosts> call, int want) {
        SoftCosts x = made.get();
        due(what, call.applyAsInt(x), want);
        like(what + " changes nothing", story(x), story(made.get()));
    }

    protected static void refused(String what, ToIntFunction<SoftCosts> call, int want) {
        leaves(Edges::busy, what, call, want);
    }

    protected static void singles(SoftCosts x, int i, int... want) {
        due("VALUES of " + i, x.name(i, 0), want.length);
        for (int a = 0; a < want.length; a++) {
            due("single(" + i + "," + a + ")", x.single(i, a), want[a]);
        }
    }

    /** The PAIRS of a TABLE, a / between the rows of the lower NAME's VALUES. */
    protected static void pairs(SoftCosts x, int t, String want) {
        like("pairs of " + t, rowOfPairs(x, t), want);
    }

    /** TOTALS of all CHOICES, the first ones first; the CHOICE told is VALUE 0 of each then. */
    protected static String totals(SoftCosts x) {
        int[] sizes = new int[x.count(0)];
        int[] at = new int[sizes.length];
        for (int i = 0; i < sizes.length; i++) {
            sizes[i] = x.name(i, 0);
            x.choose(i, 0);
        }
        StringBuilder s = new StringBuilder();
        int k = 0;
        while (k >= 0) {
            s.append(x.total()).append(' ');
            // only what becomes another is chosen: an object has 512 calls
            k = sizes.length - 1;
            while (k >= 0 && at[k] == sizes[k] - 1) {
                at[k] = 0;
                x.choose(k--, 0);
            }
            if (k >= 0) {
                x.choose(k, ++at[k]);
            }
        }
        return s.toString().trim();
    }
}
