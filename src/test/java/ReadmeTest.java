import java.io.IOException;
import java.lang.reflect.Method;
import java.nio.file.Files;
import java.nio.file.Path;
import java.util.HashMap;
import java.util.Map;
import java.util.Set;
import java.util.TreeSet;
import java.util.regex.Matcher;
import java.util.regex.Pattern;

/**
 * Makes the calls of the example in README.md: each has to answer what the line says behind it.
 * The table below the example has to have every method with its parameters.
 */
public final class ReadmeTest {
    private static final Pattern CALL =
            Pattern.compile("(?:int (\\w+) = )?store\\.(\\w+)\\(([^)]*)\\);(?:\\s*// ([\\w-]+).*)?");
    private static final Pattern ROW = Pattern.compile("\\| `(\\w+)\\(([^)]*)\\)` \\|.*");

    private final SegmentStore store = new SegmentStore();
    private final Map<String, Long> named = new HashMap<>();
    private final Map<String, Method> methods = new HashMap<>();
    private final Set<String> called = new TreeSet<>();
    private final Set<String> told = new TreeSet<>();

    private ReadmeTest() {
        for (Method method : SegmentStore.class.getDeclaredMethods()) {
            if (java.lang.reflect.Modifier.isPublic(method.getModifiers())) {
                methods.put(method.getName(), method);
            }
        }
        named.put("OK", (long) SegmentStore.OK);
        named.put("NONE", (long) SegmentStore.NONE);
        named.put("CONFLICT", (long) SegmentStore.CONFLICT);
        named.put("FULL", (long) SegmentStore.FULL);
        named.put("true", 1L);
        named.put("false", 0L);
    }

    public static void main(String[] args) throws IOException, ReflectiveOperationException {
        ReadmeTest test = new ReadmeTest();
        boolean example = false;
        for (String line : Files.readAllLines(Path.of("README.md"))) {
            if (line.startsWith("```")) {
                example = line.equals("```java");
            } else if (example) {
                test.exampleLine(line);
            } else {
                test.tableLine(line);
            }
        }
        Check.due("every method is called in " + test.called,
                test.called.equals(test.methods.keySet()), true);
        Check.due("every method is told in " + test.told,
                test.told.equals(test.methods.keySet()), true);
        Check.end();
    }

    private void exampleLine(String line) throws ReflectiveOperationException {
        Matcher call = CALL.matcher(line);
        if (!call.matches()) {
            boolean other = line.isEmpty() || line.startsWith("// ")
                    || line.equals("SegmentStore store = new SegmentStore();");
            Check.due("README.md: a line that can be read: " + line, other, true);
            return;
        }
        Method method = methods.get(call.group(2));
        Object[] arguments = arguments(call.group(3));
        called.add(call.group(2));
        Object answer = method.invoke(store, arguments);
        Check.due("README.md: an answer in " + line, call.group(4) == null, answer == null);
        if (answer == null) {
            return;
        }
        long got = answer instanceof Boolean ? ((Boolean) answer ? 1 : 0) : ((Number) answer).longValue();
        Check.due("README.md: " + line, got, number(call.group(4)));
        if (call.group(1) != null) {
            named.put(call.group(1), got);
        }
    }

    private void tableLine(String line) {
        Matcher row = ROW.matcher(line);
        if (row.matches() && methods.containsKey(row.group(1))) {
            told.add(row.group(1));
            Check.due("README.md: parameters in " + line, parts(row.group(2)).length,
                    methods.get(row.group(1)).getParameterCount());
        }
    }

    private static String[] parts(String list) {
        return list.isEmpty() ? new String[0] : list.split(", ");
    }

    private Object[] arguments(String list) {
        String[] words = parts(list);
        Object[] arguments = new Object[words.length];
        for (int i = 0; i < words.length; i++) {
            arguments[i] = (int) number(words[i]);
        }
        return arguments;
    }

    private long number(String word) {
        return named.containsKey(word) ? named.get(word) : Long.parseLong(word);
    }
}
