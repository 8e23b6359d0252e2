import java.io.IOException;
import java.lang.reflect.Method;
import java.lang.reflect.Modifier;
import java.nio.file.Files;
import java.nio.file.Path;
import java.util.ArrayList;
import java.util.HashMap;
import java.util.List;
import java.util.Map;
import java.util.regex.Matcher;
import java.util.regex.Pattern;

/** What README.md says of the class: its example is run, and its table is held against the public face. */
public final class ReadmeTest {
    /** A line of the example: what it is kept as, the call, its arguments, and behind // the answer or exception. */
    private static final Pattern CALL = Pattern.compile("(?:int (\\w+) = )?store\\.(\\w+)\\((.*)\\); +// (\\w+)(?::.*)?");
    private static final Pattern EXCEPTION = Pattern.compile("`(\\w+Exception)`");

    private final RecordVersions store = new RecordVersions();
    private final Map<String, String> kept = new HashMap<>();

    private String answer(String name, String arguments) {
        StringBuilder call = new StringBuilder(name);
        for (String argument : arguments.isEmpty() ? new String[0] : arguments.split(", ")) {
            String number = argument.equals("store.begin()") ? Script.answer(store, "begin") : kept.getOrDefault(argument, argument);
            call.append(' ').append(number);
        }
        return Script.answer(store, call.toString());
    }

    private void example(List<String> lines) {
        for (String line : lines) {
            Matcher parts = CALL.matcher(line);
            boolean whole = parts.matches();
            Script.due("README.md: a call and its answer: " + line, whole);
            if (!whole) {
                return;
            }
            String got = answer(parts.group(2), parts.group(3));
            String want = parts.group(4).replace("Exception", "").replace("CRASHED", Integer.toString(RecordVersions.CRASHED));
            Script.due("README.md: " + line + ", but it was " + got, got.equals(want));
            kept.put(parts.group(1), got);
        }
    }

    private static List<String> exampleIn(List<String> lines) {
        int from = lines.indexOf("```java");
        List<String> rest = lines.subList(from + 1, lines.size());
        Script.due("README.md: the example begins with a new object",
                from >= 0 && rest.get(0).equals("RecordVersions store = new RecordVersions();"));
        return rest.subList(1, rest.indexOf("```"));
    }

    private static void table(List<String> lines) {
        for (Method method : RecordVersions.class.getDeclaredMethods()) {
            if (Modifier.isPublic(method.getModifiers())) {
                row(method, lines.stream().filter(line -> line.startsWith("| `" + method.getName() + "(")).toList());
            }
        }
    }

    private static void row(Method method, List<String> rows) {
        Script.due("README.md: one row of the table for " + method.getName(), rows.size() == 1);
        for (String row : rows) {
            String call = row.substring(row.indexOf('(') + 1, row.indexOf(')'));
            int arguments = call.isEmpty() ? 0 : call.split(", ").length;
            Script.due("README.md: the arguments of " + method.getName(), arguments == method.getParameterCount());
            List<String> exceptions = new ArrayList<>();
            for (Class<?> exception : method.getExceptionTypes()) {
                exceptions.add(exception.getSimpleName());
            }
            List<String> told = EXCEPTION.matcher(row).results().map(found -> found.group(1)).toList();
            Script.due("README.md: " + method.getName() + " throws " + exceptions + " and not " + told, told.equals(exceptions));
        }
    }

    public static void main(String[] args) throws IOException {
        List<String> lines = Files.readAllLines(Path.of("README.md"));
        List<String> example = exampleIn(lines);
        Script.due("README.md: an example of some calls", example.size() > 10);
        new ReadmeTest().example(example);
        table(lines);
        Script.end();
    }
}
