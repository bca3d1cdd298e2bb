import java.io.IOException;
import java.lang.reflect.Method;
import java.nio.file.Files;
import java.nio.file.Paths;
import java.util.List;
import java.util.Map;
import java.util.TreeMap;
import java.util.regex.Matcher;
import java.util.regex.Pattern;

// What README.md tells of answers and constants is so: its example is run, its table of constants is looked up.
public final class ReadmeTest {
    private static final Pattern MADE = Pattern.compile("DensestSubgraph graph = new DensestSubgraph\\((.*)\\);");
    private static final Pattern CALL = Pattern.compile("graph\\.(\\w+)\\((.*)\\); +// ([^:]+): .*");
    private static final Pattern CONSTANT = Pattern.compile("\\| `([A-Z_]+)` \\| (-?\\d+) \\|");
    private static final Pattern CALL_ROW = Pattern.compile("\\| `(\\w+)\\(.*\\)` \\|.*");
    private static final int CONSTANTS = 8;
    private static final int METHODS = 9;

    private static int wrong = 0;

    private final Map<String, Method> methods = new TreeMap<>();
    private DensestSubgraph graph = null;

    private static void fault(String text) {
        wrong++;
        System.out.println("README.md: " + text);
    }

    public static void main(String[] args) throws IOException, ReflectiveOperationException {
        List<String> lines = Files.readAllLines(Paths.get("README.md"));
        new ReadmeTest().runExample(lines);
        checkConstants(lines);
        checkRows(lines);
        System.out.println(wrong == 0 ? "README.md is right" : wrong + " faults in README.md");
        if (wrong != 0) {
            System.exit(1);
        }
    }

    private ReadmeTest() {
        for (Method method : DensestSubgraph.class.getMethods()) {
            if (method.getDeclaringClass() == DensestSubgraph.class) {
                methods.put(method.getName(), method);
            }
        }
    }

    private void runExample(List<String> lines) throws ReflectiveOperationException {
        int from = lines.indexOf("```java") + 1;
        int to = lines.indexOf("```");
        if (from == 0 || to < from) {
            fault("there is no example");
            return;
        }
        for (String line : lines.subList(from, to)) {
            Matcher made = MADE.matcher(line);
            Matcher call = CALL.matcher(line);
            if (made.matches()) {
                graph = new DensestSubgraph(number(made.group(1)));
            } else if (call.matches() && graph != null && methods.containsKey(call.group(1))) {
                runCall(line, call);
            } else if (!line.isEmpty()) {
                fault("the example has a line that is not checked: " + line);
            }
        }
        checkAllShown(lines.subList(from, to));
    }

    private void runCall(String line, Matcher call) throws ReflectiveOperationException {
        String[] texts = call.group(2).isEmpty() ? new String[0] : call.group(2).split(", ");
        Object[] arguments = new Object[texts.length];
        for (int i = 0; i < texts.length; i++) {
            arguments[i] = number(texts[i]);
        }
        Object got = methods.get(call.group(1)).invoke(graph, arguments);
        if (!got.equals(number(call.group(3)))) {
            fault("the class answers " + got + " in: " + line);
        }
    }

    private void checkAllShown(List<String> example) {
        for (String name : methods.keySet()) {
            if (example.stream().noneMatch(line -> line.startsWith("graph." + name + "("))) {
                fault("the example doesn't show " + name);
            }
        }
    }

    // A number, a mask such as 0b011, or a constant of the class with or without its name ahead.
    private static int number(String text) throws ReflectiveOperationException {
        String name = text.replace("DensestSubgraph.", "");
        if (Character.isLetter(name.charAt(0))) {
            return DensestSubgraph.class.getField(name).getInt(null);
        }
        return name.startsWith("0b") ? Integer.parseInt(name.substring(2), 2) : Integer.parseInt(name);
    }

    private static void checkConstants(List<String> lines) throws ReflectiveOperationException {
        int seen = 0;
        for (String line : lines) {
            Matcher constant = CONSTANT.matcher(line);
            if (constant.matches()) {
                seen++;
                if (number(constant.group(1)) != Integer.parseInt(constant.group(2))) {
                    fault("a constant is not so: " + line);
                }
            }
        }
        if (seen != CONSTANTS || DensestSubgraph.class.getFields().length != CONSTANTS) {
            fault("the table has " + seen + " constants");
        }
    }

    // The table of calls has a row for the constructor and one for each method.
    private static void checkRows(List<String> lines) {
        Map<String, Integer> rows = new TreeMap<>();
        for (String line : lines) {
            Matcher row = CALL_ROW.matcher(line);
            if (row.matches()) {
                rows.merge(row.group(1), 1, Integer::sum);
            }
        }
        for (Method method : DensestSubgraph.class.getMethods()) {
            if (method.getDeclaringClass() == DensestSubgraph.class && !rows.containsKey(method.getName())) {
                fault("the table has no row for " + method.getName());
            }
        }
        if (!rows.containsKey("DensestSubgraph") || rows.size() != METHODS + 1) {
            fault("the table has rows for " + rows.keySet());
        }
    }
}
