import java.io.IOException;
import java.lang.reflect.Method;
import java.nio.file.Files;
import java.nio.file.Path;
import java.util.HashSet;
import java.util.Set;
import java.util.regex.Matcher;
import java.util.regex.Pattern;

/** The calls of README.md's example answer what it says, and its table names every call; run from the project's root. */
public final class ReadmeTest {
    private static final Pattern CALL =
        Pattern.compile("graph\\.(\\w+)\\(([^)]*)\\);\\s+// answers (-?\\d+|true|false)\\b.*");
    private static final Pattern ROW = Pattern.compile("\\| `(\\w+)\\(([^)]*)\\)` \\|.*");

    private static int wrong = 0;
    private static int calls = 0;

    public static void main(String[] args) throws IOException, ReflectiveOperationException {
        PersistentGraph graph = new PersistentGraph();
        Set<String> rows = new HashSet<>();
        for (String line : Files.readAllLines(Path.of("README.md"))) {
            if (line.startsWith("graph.")) {
                call(graph, line);
            }
            Matcher row = ROW.matcher(line);
            if (row.matches()) {
                rows.add(row.group(1) + "/" + words(row.group(2)).length);
            }
        }
        due("the calls of the table", rows, publicCalls());
        // A README whose example is not found would hold without saying anything.
        due("calls were found", calls > 0, true);
        System.out.println(calls + " calls of README.md, " + wrong + " answers are not as due");
        if (wrong != 0) {
            System.exit(1);
        }
    }

    private static void call(PersistentGraph graph, String line) throws ReflectiveOperationException {
        Matcher parts = CALL.matcher(line);
        if (!parts.matches()) {
            due("a line that says what it answers", line, "");
            return;
        }
        calls++;
        String[] words = words(parts.group(2));
        Object[] numbers = new Object[words.length];
        Class<?>[] types = new Class<?>[words.length];
        for (int i = 0; i < words.length; i++) {
            numbers[i] = Integer.valueOf(words[i]);
            types[i] = int.class;
        }
        Method method = PersistentGraph.class.getMethod(parts.group(1), types);
        due(line, method.invoke(graph, numbers).toString(), parts.group(3));
    }

    private static Set<String> publicCalls() {
        Set<String> names = new HashSet<>();
        for (Method method : PersistentGraph.class.getMethods()) {
            if (method.getDeclaringClass() == PersistentGraph.class) {
                names.add(method.getName() + "/" + method.getParameterCount());
            }
        }
        return names;
    }

    private static String[] words(String list) {
        return list.isBlank() ? new String[0] : list.split(", ");
    }

    private static void due(String what, Object got, Object want) {
        if (!got.equals(want)) {
            wrong++;
            System.out.println(what + ": answered " + got + ", due is " + want);
        }
    }
}
