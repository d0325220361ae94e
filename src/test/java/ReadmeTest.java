import java.io.File;
import java.io.IOException;
import java.lang.reflect.Field;
import java.lang.reflect.Method;
import java.lang.reflect.Modifier;
import java.nio.file.Files;
import java.nio.file.Path;
import java.util.Set;
import java.util.TreeSet;
import java.util.regex.Matcher;
import java.util.regex.Pattern;

/** README.md says how to use the class, with an example that answers what it says, and how to run the tests. */
public final class ReadmeTest {
    private static final Path README = Path.of("README.md");
    private static final Path TESTS = Path.of("src/test/java");
    private static final Pattern MADE = Pattern.compile(
            "LineProgramDbg x = new LineProgramDbg\\((.+), (.+)\\);(?: +//.*)?");
    private static final Pattern CALL = Pattern.compile("x\\.(\\w+)\\((.*)\\); +// (-?\\w+)(?::.*)?");
    private static final Pattern TEST_ROW = Pattern.compile("(?m)^\\| `(\\w+)` \\|");

    public static void main(String[] args) throws ReflectiveOperationException, IOException {
        Check.due("whether README.md is there", Files.isRegularFile(README), true);
        if (!Check.anyWrong()) {
            String text = Files.readString(README);
            String use = section(text, "How to use it");
            theFaceIsNamed(use);
            theExampleHolds(use);
            theTestsAreNamed(section(text, "How to run its tests"));
        }
        Check.end();
    }

    /** The text under a heading, up to the next heading of its rank; empty if there is no such heading. */
    private static String section(String text, String heading) {
        for (String part : text.split("(?m)^## ")) {
            if (part.startsWith(heading + "\n")) {
                return part;
            }
        }
        return "";
    }

    private static void theFaceIsNamed(String use) {
        for (Field constant : LineProgramDbg.class.getFields()) {
            String name = constant.getName();
            Check.due("whether the use of " + name + " is told", use.contains("`" + name + "`"), true);
        }
        for (String name : publicMethods()) {
            Check.due("whether the use of " + name + " is told", use.contains("| `" + name + "("), true);
        }
    }

    private static void theExampleHolds(String use) throws ReflectiveOperationException {
        String[] parts = use.split("```java\n|```\n");
        Check.due("whether there is one example", parts.length, 3);
        if (parts.length != 3) {
            return;
        }
        LineProgramDbg x = null;
        Set<String> called = new TreeSet<>();
        for (String line : parts[1].split("\n")) {
            Matcher made = MADE.matcher(line);
            Matcher call = CALL.matcher(line);
            if (made.matches()) {
                x = new LineProgramDbg(Integer.parseInt(made.group(1)), Integer.parseInt(made.group(2)));
            } else if (call.matches()) {
                Check.due(line, answer(x, call.group(1), call.group(2)), value(call.group(3)));
                called.add(call.group(1));
            } else {
                Check.due("whether there is a call with its answer in '" + line + "'", line.isEmpty(), true);
            }
        }
        Check.due("the calls of the example", called.toString(), publicMethods().toString());
    }

    private static Set<String> publicMethods() {
        Set<String> names = new TreeSet<>();
        for (Method method : LineProgramDbg.class.getDeclaredMethods()) {
            if (Modifier.isPublic(method.getModifiers())) {
                names.add(method.getName());
            }
        }
        return names;
    }

    private static String answer(LineProgramDbg x, String name, String operands) throws ReflectiveOperationException {
        String[] words = operands.isEmpty() ? new String[0] : operands.split(", ");
        Object[] values = new Object[words.length];
        for (int i = 0; i < words.length; i++) {
            values[i] = Integer.valueOf(value(words[i].replace("LineProgramDbg.", "")));
        }
        for (Method method : LineProgramDbg.class.getMethods()) {
            if (method.getName().equals(name)) {
                return method.invoke(x, values).toString();
            }
        }
        return "no such call";
    }

    /** A constant's name stands for its value. */
    private static String value(String word) throws ReflectiveOperationException {
        boolean isConstant = Character.isUpperCase(word.charAt(0));
        return isConstant ? Integer.toString(LineProgramDbg.class.getField(word).getInt(null)) : word;
    }

    private static void theTestsAreNamed(String running) {
        Check.due("whether .ci/run is told", running.contains("\n.ci/run\n"), true);
        Check.due("whether .ci/run is there", Files.isRegularFile(Path.of(".ci/run")), true);
        Set<String> told = new TreeSet<>();
        Matcher row = TEST_ROW.matcher(running);
        while (row.find()) {
            told.add(row.group(1));
        }
        Check.due("the tests told of", told.toString(), testsThere().toString());
    }

    private static Set<String> testsThere() {
        Set<String> names = new TreeSet<>();
        File[] files = TESTS.toFile().listFiles();
        for (File file : files == null ? new File[0] : files) {
            if (file.getName().endsWith("Test.java")) {
                names.add(file.getName().replace(".java", ""));
            }
        }
        return names;
    }
}
