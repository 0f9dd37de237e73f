import java.io.IOException;
import java.lang.reflect.Method;
import java.lang.reflect.Modifier;
import java.nio.file.Files;
import java.nio.file.Path;
import java.util.ArrayList;
import java.util.List;
import java.util.Map;
import java.util.Set;
import java.util.TreeMap;
import java.util.TreeSet;
import java.util.regex.Matcher;
import java.util.regex.Pattern;
import java.util.stream.Stream;

/** What README.md says is so: its example's answers, its table of calls, its list of tests. */
public final class ReadmeTest {
    private static final Path README = Path.of("README.md");
    private static final Path DOC = Path.of("../shared/DOC.md");
    private static final Path TESTS = Path.of("src/test/java");
    private static final Pattern REFUSAL = Pattern.compile("UNKNOWN|BAD|LATE|FULL");

    private static final Due DUE = new Due();

    public static void main(String[] args) throws IOException, ReflectiveOperationException {
        String readme = Files.readString(README);
        example(readme);
        table(readme);
        constants(readme);
        surfaces(readme);
        tests(readme);
        DUE.end();
    }

    private static String found(String form, String text) {
        Matcher matcher = Pattern.compile(form, Pattern.DOTALL).matcher(text);
        boolean isThere = matcher.find();
        DUE.holds("README.md has " + form, isThere);
        return isThere ? matcher.group(1) : "0";
    }

    private static Map<String, Method> face() {
        Map<String, Method> face = new TreeMap<>();
        for (Method method : SquareFolds.class.getDeclaredMethods()) {
            if (Modifier.isPublic(method.getModifiers())) {
                face.put(method.getName(), method);
            }
        }
        return face;
    }

    /** Each call of the example, in its order, on one object, with the answer that stands behind it. */
    private static void example(String readme) throws ReflectiveOperationException {
        String code = found("```java\n(.*?)```", readme);
        SquareFolds folds = new SquareFolds();
        Due.tell(folds, found("\"(S[0-9]+)\"", code));
        int calls = 0;
        for (String line : code.split("\n")) {
            Matcher call = Pattern.compile("^folds\\.(\\w+)\\(([^)]*)\\);\\s*// (-?\\d+)( \\((\\w+)\\))?: .+").matcher(line);
            if (line.startsWith("folds.")) {
                DUE.holds("the answer stands behind " + line, call.matches());
                long due = Long.parseLong(call.group(3));
                DUE.is("README.md: " + line, answer(folds, call.group(1), call.group(2)), due);
                if (call.group(5) != null) {
                    DUE.is("README.md: " + call.group(5), SquareFolds.class.getField(call.group(5)).getInt(null), due);
                }
                calls++;
            }
        }
        DUE.holds("the example has calls", calls > 5);
    }

    private static long answer(SquareFolds folds, String name, String told) throws ReflectiveOperationException {
        Method method = face().get(name);
        String[] parts = told.isEmpty() ? new String[0] : told.split(", ");
        Object[] values = new Object[parts.length];
        for (int i = 0; i < parts.length; i++) {
            Class<?> type = method.getParameterTypes()[i];
            if (type == boolean.class) {
                values[i] = Boolean.valueOf(parts[i]);
            } else if (type == long.class) {
                values[i] = Long.valueOf(parts[i]);
            } else {
                values[i] = Integer.valueOf(parts[i]);
            }
        }
        return ((Number) method.invoke(folds, values)).longValue();
    }

    /** Each call of the face once, in the document's order, with its parameters and its refusals. */
    private static void table(String readme) throws IOException {
        List<String> rows = new ArrayList<>();
        Matcher row = Pattern.compile("(?m)^\\| `(\\w+)\\(([^)]*)\\)` \\| [^|]+ \\| ([^|]*)\\|$").matcher(readme);
        while (row.find()) {
            rows.add(row.group(1) + "(" + row.group(2) + ") " + refusals(row.group(3)));
        }
        List<String> due = new ArrayList<>();
        String doc = Files.readString(DOC);
        Matcher promise = Pattern.compile("(?m)^`(?:int|long) (\\w+)\\(([^)]*)\\)`: (.*)$").matcher(doc);
        while (promise.find()) {
            String parameters = promise.group(2).replaceAll("(int|long|boolean) ", "");
            due.add(promise.group(1) + "(" + parameters + ") " + refusals(promise.group(3)));
        }
        DUE.is("promises with a call", due.size(), face().size());
        DUE.is("rows of the table", rows.size(), due.size());
        for (int i = 0; i < rows.size() && i < due.size(); i++) {
            DUE.holds("the table says " + due.get(i) + ", not " + rows.get(i), rows.get(i).equals(due.get(i)));
        }
    }

    private static List<String> refusals(String text) {
        List<String> names = new ArrayList<>();
        Matcher matcher = REFUSAL.matcher(text);
        while (matcher.find()) {
            names.add(matcher.group());
        }
        return names;
    }

    private static void constants(String readme) throws ReflectiveOperationException {
        for (String name : List.of("UNKNOWN", "BAD", "LATE", "FULL", "NONE")) {
            String told = found("`" + name + "`\\s\\((-\\d+)\\)", readme);
            DUE.is("README.md: " + name, SquareFolds.class.getField(name).getInt(null), Long.parseLong(told));
        }
    }

    private static void surfaces(String readme) {
        int count = 0;
        for (int n = 1; n <= 5; n++) {
            count += Due.rows(n).size() * Due.rows(n).size();
        }
        DUE.is("README.md: surfaces", Long.parseLong(found("\\(([0-9,]+)\\) and in runs", readme).replace(",", "")), count);
    }

    private static void tests(String readme) throws IOException {
        Set<String> files = new TreeSet<>();
        try (Stream<Path> paths = Files.list(TESTS)) {
            paths.forEach(path -> files.add(path.getFileName().toString().replace(".java", "")));
        }
        Matcher named = Pattern.compile("`(\\w+(?:Test|Edges|Folds|Reader))`").matcher(readme);
        Set<String> told = new TreeSet<>(Set.of("SquareFolds"));
        while (named.find()) {
            told.add(named.group(1));
            DUE.holds("README.md names " + named.group(1) + ", which is there",
                files.contains(named.group(1)) || named.group(1).equals("SquareFolds"));
        }
        for (String file : files) {
            DUE.holds("README.md names " + file, !file.endsWith("Test") || told.contains(file));
        }
    }
}
