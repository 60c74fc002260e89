import java.io.IOException;
import java.lang.reflect.InvocationTargetException;
import java.lang.reflect.Method;
import java.nio.file.Files;
import java.nio.file.Path;
import java.util.Arrays;
import java.util.Set;
import java.util.TreeSet;
import java.util.regex.Matcher;
import java.util.regex.Pattern;

/** What README.md tells of the class holds: the example's answers, the calls' heads, the constants. */
public final class ReadmeTest {
    private static final Check CHECK = new Check();

    public static void main(String[] args) throws IOException, ReflectiveOperationException {
        String page = Files.readString(Path.of("README.md"));
        example(page);
        calls(page);
        constants(page);
        CHECK.end();
    }

    private static void example(String page) throws IllegalAccessException, InvocationTargetException {
        SoftCosts x = new SoftCosts();
        Matcher text = Pattern.compile("for \\(char c : \"([^\"]+)\"").matcher(page);
        CHECK.holds("the example has a text", text.find());
        for (char c : text.group(1).toCharArray()) {
            x.write(c);
        }
        Matcher line = Pattern.compile("(?m)^    x\\.(\\w+)\\(([-0-9, ]*)\\); +// (-?\\d+)").matcher(page);
        int lines = 0;
        while (line.find()) {
            lines++;
            CHECK.due("the example's " + line.group().trim(), answer(x, line.group(1), line.group(2)),
                Integer.parseInt(line.group(3)));
        }
        CHECK.due("lines with an answer", lines, Pattern.compile("(?m)^    x\\.").matcher(page).results().count());
    }

    private static int answer(SoftCosts x, String call, String numbers)
        throws IllegalAccessException, InvocationTargetException {
        Object[] given = Arrays.stream(numbers.split(", *")).filter(n -> !n.isEmpty()).map(Integer::valueOf).toArray();
        for (Method m : SoftCosts.class.getMethods()) {
            if (m.getName().equals(call) && m.getParameterCount() == given.length) {
                return (int) m.invoke(x, given);
            }
        }
        CHECK.holds("there is a call " + call + "(" + numbers + ")", false);
        return 0;
    }

    private static void calls(String page) throws IOException {
        String table = page.substring(page.indexOf("### The calls"), page.indexOf("### What is no answer"));
        Set<String> told = new TreeSet<>();
        Matcher call = Pattern.compile("`(\\w+\\([a-z, ]*\\))`").matcher(table);
        while (call.find()) {
            told.add(call.group(1));
        }
        Set<String> there = new TreeSet<>();
        Matcher head = Pattern.compile("(?m)^    public int (\\w+\\([^)]*\\)) \\{$")
            .matcher(Files.readString(Path.of("src/main/java/SoftCosts.java")));
        while (head.find()) {
            there.add(head.group(1).replace("int ", ""));
        }
        CHECK.holds("the calls told " + told + " are those there are " + there, told.equals(there));
    }

    private static void constants(String page) throws ReflectiveOperationException {
        Matcher row = Pattern.compile("(?m)^\\| `([A-Z]+)` +\\| (-\\d) ").matcher(page);
        int rows = 0;
        while (row.find()) {
            rows++;
            CHECK.due(row.group(1), SoftCosts.class.getField(row.group(1)).getInt(null), Integer.parseInt(row.group(2)));
        }
        CHECK.due("constants told", rows, 4);
    }
}
