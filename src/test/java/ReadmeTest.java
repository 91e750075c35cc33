import java.io.IOException;
import java.lang.reflect.Field;
import java.lang.reflect.Method;
import java.lang.reflect.Modifier;
import java.nio.file.DirectoryStream;
import java.nio.file.Files;
import java.nio.file.Path;
import java.util.List;
import java.util.Set;
import java.util.TreeSet;
import java.util.regex.Matcher;
import java.util.regex.Pattern;

/**
 * Holds what README.md shows against the class: each call with its answer, the factors in one
 * number, the constants. A row that it can't read is wrong, too, so that none goes untested.
 */
public final class ReadmeTest {
    private static final Due D = new Due();
    private static final Path README = Path.of("README.md");
    private static final Path TESTS = Path.of("src", "test", "java");

    private static final String MADE = "IntegerBox box = new IntegerBox();";
    private static final Pattern CALL =
        Pattern.compile("box\\.(\\w+)\\(([^()]*)\\); +// (\\w+|-\\d+)(: .+)?");
    private static final Pattern FACTORS =
        Pattern.compile("\\| (-?\\d) \\| (-?\\d) \\| (-?\\d) \\| 0x([0-9A-F]{3}) \\|");
    private static final Pattern CONSTANT = Pattern.compile("\\| `([A-Z_]+)` \\| (-\\d+) \\| .*");
    private static final Pattern TEST = Pattern.compile("- `(\\w+)`: .*");

    private final List<String> rows;
    private final Set<String> called = new TreeSet<>();
    private final Set<String> answered = new TreeSet<>();

    private ReadmeTest(List<String> rows) {
        this.rows = rows;
    }

    public static void main(String[] args) throws IOException, ReflectiveOperationException {
        ReadmeTest test = new ReadmeTest(Files.readAllLines(README));
        test.calls();
        test.factors();
        test.constants();
        test.tests();
        D.end();
    }

    private void calls() throws ReflectiveOperationException {
        D.sentence("the calls that README.md shows");
        boolean inside = false;
        IntegerBox box = null;
        for (String row : rows) {
            if (row.startsWith("```")) {
                inside = row.equals("```java");
                box = null;
            } else if (inside && row.equals(MADE)) {
                box = new IntegerBox();
            } else if (inside) {
                oneCall(row, box);
            }
        }
        D.same("the calls shown", called.toString(), publicMethods().toString());
        D.same("the constants answered", answered.toString(), publicConstants().toString());
    }

    private void oneCall(String row, IntegerBox box) throws ReflectiveOperationException {
        Matcher m = CALL.matcher(row);
        boolean isCall = m.matches() && box != null;
        D.due("'" + row + "' is a call on an object that was made, with its answer", isCall, true);
        if (isCall) {
            String[] words = m.group(2).isEmpty() ? new String[0] : m.group(2).split(", ");
            Object answer = answerOf(box, m.group(1), words);
            D.same(row, answer.toString(), due(m.group(3)));
            called.add(m.group(1));
        }
    }

    private static Object answerOf(IntegerBox box, String name, String[] words)
            throws ReflectiveOperationException {
        for (Method method : IntegerBox.class.getMethods()) {
            if (method.getName().equals(name)) {
                return method.invoke(box, arguments(method.getParameterTypes(), words));
            }
        }
        return "no call " + name;
    }

    private static Object[] arguments(Class<?>[] types, String[] words) {
        Object[] arguments = new Object[words.length];
        for (int i = 0; i < words.length; i++) {
            boolean isWord = i < types.length && types[i] == boolean.class;
            arguments[i] = isWord ? (Object) words[i].equals("true") : (Object) numberOf(words[i]);
        }
        return arguments;
    }

    private static int numberOf(String word) {
        return Integer.decode(word);
    }

    /** An answer in the README is a number, true, false or the name of a constant. */
    private String due(String word) throws ReflectiveOperationException {
        if (publicConstants().contains(word)) {
            answered.add(word);
            return String.valueOf(IntegerBox.class.getField(word).getInt(null));
        }
        return word;
    }

    private void factors() {
        D.sentence("the factors that README.md shows in one number");
        for (String row : rows) {
            Matcher m = FACTORS.matcher(row);
            if (m.matches()) {
                int f = Integer.parseInt(m.group(4), 16);
                D.due("a of " + row, (f & 15) - 5, numberOf(m.group(1)));
                D.due("b of " + row, ((f >> 4) & 15) - 5, numberOf(m.group(2)));
                D.due("c of " + row, ((f >> 8) & 15) - 5, numberOf(m.group(3)));
                D.due("refused " + row, new IntegerBox().limit(f, 0), 0);
            }
        }
    }

    private void constants() throws ReflectiveOperationException {
        D.sentence("the constants that README.md shows");
        Set<String> shown = new TreeSet<>();
        for (String row : rows) {
            Matcher m = CONSTANT.matcher(row);
            if (m.matches()) {
                shown.add(m.group(1));
                int value = IntegerBox.class.getField(m.group(1)).getInt(null);
                D.due(m.group(1), value, numberOf(m.group(2)));
            }
        }
        D.same("the constants shown", shown.toString(), publicConstants().toString());
    }

    private void tests() throws IOException {
        D.sentence("the tests that README.md names");
        Set<String> named = new TreeSet<>();
        for (String row : rows) {
            Matcher m = TEST.matcher(row);
            if (m.matches()) {
                named.add(m.group(1));
            }
        }
        Set<String> there = new TreeSet<>();
        try (DirectoryStream<Path> files = Files.newDirectoryStream(TESTS, "*Test.java")) {
            files.forEach(file -> there.add(file.getFileName().toString().replace(".java", "")));
        }
        D.same("the tests named", named.toString(), there.toString());
    }

    private static Set<String> publicMethods() {
        Set<String> names = new TreeSet<>();
        for (Method method : IntegerBox.class.getDeclaredMethods()) {
            if (Modifier.isPublic(method.getModifiers())) {
                names.add(method.getName());
            }
        }
        return names;
    }

    private static Set<String> publicConstants() {
        Set<String> names = new TreeSet<>();
        for (Field field : IntegerBox.class.getFields()) {
            names.add(field.getName());
        }
        return names;
    }
}
