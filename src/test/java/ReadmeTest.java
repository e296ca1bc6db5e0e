import java.io.IOException;
import java.lang.reflect.Method;
import java.lang.reflect.Modifier;
import java.nio.file.Files;
import java.nio.file.Path;
import java.util.ArrayList;
import java.util.Arrays;
import java.util.List;
import java.util.Set;
import java.util.TreeSet;
import java.util.regex.Matcher;
import java.util.regex.Pattern;

/** README.md: its example answers what it says, and its table names every call of the class as it is, and no other. */
public final class ReadmeTest {
    private static final Path README = Path.of("README.md");
    private static final Pattern EXAMPLE = Pattern.compile("x\\.(\\w+)\\(([-0-9, ]+)\\); +// (-?\\d+|true|false)\\b.*");
    private static final Pattern TABLE = Pattern.compile("\\| `((?:int|boolean) \\w+\\([^)]*\\))` \\|.*");

    private static int wrong = 0;

    private static void same(String what, Object got, Object due) {
        if (!got.equals(due)) {
            wrong++;
            System.out.println(what + " is " + got + ", due is " + due);
        }
    }

    private static List<Method> calls() {
        List<Method> found = new ArrayList<>();
        for (Method m : TrieJoins.class.getDeclaredMethods()) {
            if (Modifier.isPublic(m.getModifiers())) {
                found.add(m);
            }
        }
        return found;
    }

    private static Object answer(TrieJoins x, String name, String arguments) throws ReflectiveOperationException {
        Object[] numbers = Arrays.stream(arguments.split(", ")).map(Integer::valueOf).toArray();
        for (Method m : calls()) {
            if (m.getName().equals(name)) {
                return m.invoke(x, numbers);
            }
        }
        return "no call of the class";
    }

    /** Answers the names of the calls that the example shows. */
    private static Set<String> tryExample(List<String> lines) throws ReflectiveOperationException {
        Set<String> shown = new TreeSet<>();
        TrieJoins x = new TrieJoins();
        for (String line : lines) {
            Matcher m = EXAMPLE.matcher(line);
            if (m.matches()) {
                shown.add(m.group(1));
                same(line, answer(x, m.group(1), m.group(2)).toString(), m.group(3));
            } else {
                same("a line of the example that is no call with its answer", line.startsWith("x."), false);
            }
        }
        return shown;
    }

    /** The calls of the table, with the names of the parameters left out, as the class has lost them. */
    private static Set<String> inTable(List<String> lines) {
        Set<String> found = new TreeSet<>();
        for (String line : lines) {
            Matcher m = TABLE.matcher(line);
            if (m.matches()) {
                found.add(m.group(1).replaceAll("int \\w+([,)])", "int$1"));
            }
        }
        return found;
    }

    public static void main(String[] args) throws IOException, ReflectiveOperationException {
        List<String> lines = Files.readAllLines(README);
        Set<String> names = new TreeSet<>();
        Set<String> faces = new TreeSet<>();
        for (Method m : calls()) {
            names.add(m.getName());
            String parameters = Arrays.toString(m.getParameterTypes()).replace("[", "(").replace("]", ")");
            faces.add(m.getReturnType() + " " + m.getName() + parameters);
        }
        same("the calls of the example", tryExample(lines), names);
        same("the calls of the table", inTable(lines), faces);
        System.out.println(wrong == 0 ? "README.md is as due" : wrong + " lines of README.md are not as due");
        if (wrong != 0) {
            System.exit(1);
        }
    }
}
