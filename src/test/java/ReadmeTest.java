import java.lang.reflect.Method;
import java.nio.file.Files;
import java.nio.file.Path;
import java.util.ArrayList;
import java.util.List;
import java.util.Map;
import java.util.TreeMap;
import java.util.regex.Matcher;
import java.util.regex.Pattern;

/** README.md tells of the class what holds: its example is run, its tables are set against the document. */
public final class ReadmeTest {
    private static final Pattern EXAMPLE_CALL = Pattern.compile("x\\.(\\w+)\\((.*?)\\);\\s*// (-?\\d+): .+");
    private static final Pattern TABLE_ROW = Pattern.compile("\\| `(\\w+)\\((.*?)\\)` \\| (.+?) \\|(.*)\\|");
    private static final Pattern PROMISE = Pattern.compile("(?m)^`int (\\w+)\\((.*?)\\)`: (.*)$");
    private static final Pattern REFUSAL = Pattern.compile("\\b(BAD|NOT|FULL|NONE|NULL|CAST|INDEX|SIZE|FAULT)\\b");
    private static final Pattern CONSTANT_ROW = Pattern.compile("(?m)^\\| `([A-Z]+)` (-\\d+) \\|");

    private static int wrong = 0;

    private static void due(String what, Object got, Object want) {
        if (!want.equals(got)) {
            wrong++;
            System.out.println(what + ": " + got + ", due is " + want);
        }
    }

    private static Method callNamed(String name) {
        for (Method m : StreetCries.class.getMethods()) {
            if (m.getName().equals(name) && m.getDeclaringClass() == StreetCries.class) {
                return m;
            }
        }
        return null;
    }

    private static Object number(String written, Class<?> type) {
        if (type == boolean.class) {
            return Boolean.valueOf(written);
        }
        return type == long.class ? (Object) Long.decode(written.replace("L", "")) : (Object) Integer.decode(written);
    }

    private static int answer(StreetCries x, String name, String written) throws Exception {
        Method call = callNamed(name);
        List<String> parts = written.isBlank() ? List.of() : List.of(written.split(",\\s*"));
        Object[] numbers = new Object[parts.size()];
        for (int i = 0; i < numbers.length; i++) {
            numbers[i] = number(parts.get(i), call.getParameterTypes()[i]);
        }
        return (Integer) call.invoke(x, numbers);
    }

    private static void example(String readme) throws Exception {
        StreetCries x = null;
        int calls = 0;
        boolean inside = false;
        for (String line : readme.split("\n")) {
            Matcher call = EXAMPLE_CALL.matcher(line);
            if (line.startsWith("```")) {
                inside = line.equals("```java");
            } else if (inside && line.equals("StreetCries x = new StreetCries();")) {
                x = new StreetCries();
            } else if (inside && call.matches()) {
                calls++;
                due(line, answer(x, call.group(1), call.group(2)), Integer.valueOf(call.group(3)));
            } else if (inside) {
                due("a line of the example that can't be read", line, "");
            }
        }
        due("an example is there", calls > 0, true);
    }

    /** In the order in which they come: BAD ahead of all others, then as the text names them. */
    private static List<String> refusalsIn(String text) {
        List<String> found = new ArrayList<>();
        Matcher m = REFUSAL.matcher(text);
        while (m.find()) {
            if (!found.contains(m.group())) {
                found.add(m.group().equals("BAD") ? 0 : found.size(), m.group());
            }
        }
        return found;
    }

    /** Names of what a call takes, without their types. */
    private static String namesOf(String parameters) {
        return parameters.replaceAll("(int|long|boolean) ", "");
    }

    /** The document's refusals of each call, by its name and the names of what it takes. */
    private static Map<String, List<String>> promised() throws Exception {
        Map<String, List<String>> all = new TreeMap<>();
        Matcher m = PROMISE.matcher(Files.readString(Path.of("../shared/DOC.md")));
        while (m.find()) {
            all.put(m.group(1) + "(" + namesOf(m.group(2)) + ")", refusalsIn(m.group(3)));
        }
        return all;
    }

    private static void tables(String readme) throws Exception {
        Map<String, List<String>> told = new TreeMap<>();
        List<String> twice = new ArrayList<>();
        for (String line : readme.split("\n")) {
            Matcher row = TABLE_ROW.matcher(line);
            if (row.matches()) {
                String call = row.group(1) + "(" + row.group(2) + ")";
                if (told.put(call, refusalsIn(row.group(4))) != null) {
                    twice.add(call);
                }
            }
        }
        due("calls that the tables have twice", twice, List.of());
        due("calls in the tables", told.size(), 38);
        due("the tables", told, promised());
    }

    private static void constants(String readme) throws Exception {
        Matcher row = CONSTANT_ROW.matcher(readme);
        int rows = 0;
        while (row.find()) {
            rows++;
            due(row.group(1), StreetCries.class.getField(row.group(1)).getInt(null), Integer.valueOf(row.group(2)));
        }
        due("constants told", rows, 8);
    }

    private static void tests(String readme) throws Exception {
        try (var files = Files.list(Path.of("src/test/java"))) {
            for (Path file : (Iterable<Path>) files::iterator) {
                String name = file.getFileName().toString().replace(".java", "");
                due(name + " is told of", readme.contains("`" + name), true);
            }
        }
    }

    public static void main(String[] args) throws Exception {
        String readme = Files.readString(Path.of("README.md"));
        example(readme);
        tables(readme);
        constants(readme);
        tests(readme);
        due("512 calls are told of", readme.contains("most 512 calls"), true);
        System.out.println(wrong == 0 ? "README.md is as due" : wrong + " things in README.md are not as due");
        if (wrong != 0) {
            System.exit(1);
        }
    }
}
