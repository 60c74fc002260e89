import java.io.IOException;
import java.lang.reflect.Method;
import java.nio.file.Files;
import java.nio.file.Path;
import java.util.ArrayList;
import java.util.List;
import java.util.regex.Matcher;
import java.util.regex.Pattern;

/** Every sentence of the document's terms and promises is quoted by a test, and every quote is the document's. */
public final class EdgesQuotedTest {
    private static final Path DOCUMENT = Path.of("../shared/DOC.md");
    private static final Class<?>[] TESTS =
        {EdgesToldTest.class, EdgesCostsTest.class, EdgesMovedTest.class, EdgesSweptTest.class, EdgesBestTest.class,
        LawsTest.class};

    /** Titles, heads of methods and what stands between the parts: no sentences that could be broken. */
    private static final Pattern FRAME = Pattern.compile(
        "## Terms|## Promise \\d+: [A-Za-z ]+?(?= `)|`[^`]*\\)`:|Ahead of the calls [^:]*: ---- [a-z ]+\\.|```text|```"
        + "|======== \\d( SWEEPS:)?");

    private static final Check CHECK = new Check();

    public static void main(String[] args) throws IOException {
        if (!Files.isReadable(DOCUMENT)) {
            System.out.println("no document here to compare the quotes with");
            return;
        }
        String all = Files.readString(DOCUMENT).replaceAll("\\s+", " ");
        int terms = all.indexOf("## Terms");
        int end = all.indexOf("## Not promised");
        boolean[] quoted = new boolean[all.length()];
        for (Class<?> tests : TESTS) {
            for (Method test : Edges.testsOf(tests)) {
                for (String quote : test.getAnnotation(Says.class).value()) {
                    mark(all, quoted, test.getName(), quote);
                }
            }
        }
        Matcher frame = FRAME.matcher(all);
        while (frame.find()) {
            for (int k = frame.start(); k < frame.end(); k++) {
                quoted[k] = true;
            }
        }
        for (String left : leftOut(all, quoted, terms, end)) {
            CHECK.holds("no test quotes: " + left, false);
        }
        for (int promise = 1; promise <= 26; promise++) {
            CHECK.holds("promise " + promise + " has tests", testsOfPromise(promise) > 1);
        }
        CHECK.end();
    }

    private static int testsOfPromise(int promise) {
        int found = 0;
        for (Class<?> tests : TESTS) {
            for (Method test : Edges.testsOf(tests)) {
                found += test.getName().startsWith(String.format("promise%02d_", promise)) ? 1 : 0;
            }
        }
        return found;
    }

    /** A promise's own words come first, then those that all promises share. */
    private static void mark(String all, boolean[] quoted, String test, String quote) {
        int promise = Integer.parseInt(test.substring(7, 9));
        int from = all.indexOf("## Promise " + promise + ":");
        int to = all.indexOf("## ", from + 3);
        boolean found = markWithin(all, quoted, quote, from, to)
            || markWithin(all, quoted, quote, 0, all.indexOf("## Promise 1:"));
        CHECK.holds(test + " quotes what the document doesn't say: " + quote, found);
    }

    private static boolean markWithin(String all, boolean[] quoted, String quote, int from, int to) {
        boolean found = false;
        int at = all.indexOf(quote, from);
        while (at >= 0 && at + quote.length() <= to) {
            found = true;
            for (int k = at; k < at + quote.length(); k++) {
                quoted[k] = true;
            }
            at = all.indexOf(quote, at + 1);
        }
        return found;
    }

    private static List<String> leftOut(String all, boolean[] quoted, int from, int to) {
        List<String> left = new ArrayList<>();
        StringBuilder part = new StringBuilder();
        for (int k = from; k <= to; k++) {
            if (k < to && !quoted[k]) {
                part.append(all.charAt(k));
            } else {
                if (part.toString().matches(".*[A-Za-z0-9].*")) {
                    left.add(part.toString().trim());
                }
                part.setLength(0);
            }
        }
        return left;
    }
}
