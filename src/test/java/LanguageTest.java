import java.io.IOException;
import java.lang.management.ManagementFactory;
import java.lang.reflect.Constructor;
import java.lang.reflect.Field;
import java.lang.reflect.Method;
import java.lang.reflect.Modifier;
import java.nio.file.Files;
import java.nio.file.Path;
import java.util.Arrays;
import java.util.Set;
import java.util.TreeSet;
import java.util.regex.Matcher;
import java.util.regex.Pattern;

/** The class's face, and those rules of ../shared/LANGUAGE.md that its source and its objects show. */
public final class LanguageTest {
    private static final Check CHECK = new Check();
    private static final Path SOURCE = Path.of("src/main/java/SoftCosts.java");
    private static final Path DOCUMENT = Path.of("../shared/DOC.md");
    private static final String[] FACE = {
        "write 1", "wipe 0", "fault 0", "lay 0", "name 2", "single 2", "table 2", "pair 3", "grow 3", "choose 2",
        "total 0", "project 4", "extend 4", "raise 2", "sweep 2", "settle 1", "bound 1", "undo 0", "best 1", "next 1",
        "backbone 0", "with 2", "without 1", "tries 0", "count 1"};

    public static void main(String[] args) throws IOException {
        face();
        heads();
        nested();
        words();
        room();
        CHECK.end();
    }

    private static void face() {
        Set<String> methods = new TreeSet<>();
        for (Method m : SoftCosts.class.getDeclaredMethods()) {
            if (!Modifier.isPrivate(m.getModifiers())) {
                methods.add(m.getName() + " " + m.getParameterCount());
                CHECK.holds(m + " is public, answers an int, takes ints", Modifier.isPublic(m.getModifiers())
                    && m.getReturnType() == int.class
                    && Arrays.stream(m.getParameterTypes()).allMatch(t -> t == int.class));
            }
        }
        CHECK.holds("the methods are the document's: " + methods, methods.equals(new TreeSet<>(Arrays.asList(FACE))));
        Set<String> fields = new TreeSet<>();
        for (Field f : SoftCosts.class.getDeclaredFields()) {
            if (!Modifier.isPrivate(f.getModifiers())) {
                fields.add(Modifier.toString(f.getModifiers()) + " " + f.getType() + " " + f.getName());
            }
        }
        CHECK.holds("the constants are the document's: " + fields, fields.equals(new TreeSet<>(Arrays.asList(
            "public static final int BAD", "public static final int NO", "public static final int FULL",
            "public static final int NONE"))));
        Constructor<?>[] made = SoftCosts.class.getDeclaredConstructors();
        CHECK.holds("one public constructor without arguments", made.length == 1
            && Modifier.isPublic(made[0].getModifiers()) && made[0].getParameterCount() == 0);
        CHECK.holds("public and final", SoftCosts.class.getModifiers() == (Modifier.PUBLIC | Modifier.FINAL));
    }

    /** Each line of the document's face stands in the class as it is there, but for what a method does. */
    private static void heads() throws IOException {
        if (!Files.isReadable(DOCUMENT)) {
            System.out.println("no document here to compare the face with");
            return;
        }
        String document = Files.readString(DOCUMENT);
        int from = document.indexOf("```java") + "```java".length();
        String code = Files.readString(SOURCE);
        int heads = 0;
        for (String line : document.substring(from, document.indexOf("```", from)).split("\n")) {
            String head = line.trim();
            if (head.startsWith("public")) {
                heads++;
                CHECK.holds("the class has: " + head,
                    code.contains("\n    " + head) || code.contains("\n    " + head.replace(";", " {"))
                    || code.contains("\n" + head));
            }
        }
        CHECK.due("lines of the face", heads, FACE.length + 3);
    }

    private static void nested() {
        Class<?>[] inside = SoftCosts.class.getDeclaredClasses();
        CHECK.holds("at most twelve classes", inside.length + 1 <= 12);
        for (Class<?> c : inside) {
            CHECK.holds(c + " is static", Modifier.isStatic(c.getModifiers()));
            for (Method m : c.getDeclaredMethods()) {
                CHECK.holds(m + " takes seven at most", m.getParameterCount() <= 7);
                CHECK.holds(m + " bears no public method's name",
                    Arrays.stream(FACE).noneMatch(f -> f.startsWith(m.getName() + " ")));
            }
            long own = Arrays.stream(c.getDeclaredFields()).filter(f -> !Modifier.isStatic(f.getModifiers())).count();
            CHECK.holds(c + " has at most twenty fields", own <= 20);
        }
    }

    private static void words() throws IOException {
        String code = Files.readString(SOURCE);
        CHECK.holds("signs of ASCII alone", code.chars().allMatch(c -> c == '\n' || c >= 32 && c < 127));
        code = code.replaceAll("(?s)/\\*.*?\\*/", " ").replaceAll("//[^\n]*", " ").replaceAll("\"[^\"\n]*\"", "\"\"");
        Matcher m = Pattern.compile("\\b(throw|throws|try|catch|finally|synchronized|assert|import|package|Object|"
            + "System|Thread|hashCode|toString|protected|var|instanceof|double|float|long)\\b|->|::|@").matcher(code);
        CHECK.holds("no word that the rules leave out" + (m.find() ? ": " + m.group() : ""), m.reset().results().count() == 0);
        Matcher calls = Pattern.compile("\\b(Math|Integer|String)\\.(\\w+)").matcher(code);
        while (calls.find()) {
            CHECK.holds("library call " + calls.group(), Set.of("min", "max", "bitCount").contains(calls.group(2)));
        }
    }

    /** One room holds all calls of a run: what is needed is made with the object, no call makes more. */
    private static void room() {
        com.sun.management.ThreadMXBean threads = (com.sun.management.ThreadMXBean) ManagementFactory.getThreadMXBean();
        SoftCosts x = new SoftCosts();
        callAll(x);
        long before = threads.getThreadAllocatedBytes(Thread.currentThread().getId());
        long after = threads.getThreadAllocatedBytes(Thread.currentThread().getId());
        long ownCost = after - before;
        before = threads.getThreadAllocatedBytes(Thread.currentThread().getId());
        for (int k = 0; k < 50; k++) {
            callAll(x);
        }
        after = threads.getThreadAllocatedBytes(Thread.currentThread().getId());
        CHECK.due("bytes made by calls", Math.max(0, after - before - ownCost), 0);
        before = threads.getThreadAllocatedBytes(Thread.currentThread().getId());
        x = new SoftCosts();
        after = threads.getThreadAllocatedBytes(Thread.currentThread().getId());
        CHECK.holds("an object's bytes: " + (after - before), after - before < 20000);
    }

    private static void callAll(SoftCosts x) {
        for (int k = 0; k < Model.FIRST.length(); k++) {
            x.write(Model.FIRST.charAt(k));
        }
        x.fault();
        x.lay();
        x.wipe();
        x.name(0, 1);
        x.name(0, 2);
        x.single(0, 0);
        x.table(0, 2);
        x.pair(0, 0, 0);
        x.grow(0, 0, 1);
        x.choose(0, 1);
        x.total();
        x.project(0, 0, 0, 1);
        x.extend(0, 0, 0, 1);
        x.raise(0, 1);
        for (int kind = 0; kind < 3; kind++) {
            x.sweep(kind, 3);
            x.settle(kind);
            x.bound(kind);
        }
        x.undo();
        x.best(-1);
        x.next(0);
        x.backbone();
        x.with(0, 0);
        x.without(0);
        x.tries();
        x.count(4);
    }
}
