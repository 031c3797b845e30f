import java.io.IOException;
import java.lang.reflect.Method;
import java.nio.file.Files;
import java.nio.file.Path;
import java.util.HashMap;
import java.util.List;
import java.util.Map;
import java.util.regex.Matcher;
import java.util.regex.Pattern;

/** The examples in README.md, each call with the answer that stands behind it there. */
public final class ReadmeTest {
    private static final Pattern MADE = Pattern.compile(" {4}WarmExtents (\\w) = new WarmExtents\\(\\);");
    private static final Pattern CALLED = Pattern.compile(" {4}(\\w)\\.(\\w+)\\((.*)\\); +// (-?\\w+).*");
    private static final List<Method> METHODS = List.of(WarmExtents.class.getMethods());

    public static void main(String[] args) throws Exception {
        String text = Files.readString(Path.of("README.md"));
        examples(text);
        namesOfTests(text);
        namesOfCalls(text);
        Check.end("ReadmeTest");
    }

    private static void examples(String text) throws Exception {
        Check.sentence("README.md says how to use the class");
        Map<String, WarmExtents> made = new HashMap<>();
        int calls = 0;
        for (String line : text.split("\n")) {
            Matcher m = MADE.matcher(line);
            if (m.matches()) {
                made.put(m.group(1), new WarmExtents());
                continue;
            }
            m = CALLED.matcher(line);
            if (m.matches()) {
                String got = String.valueOf(call(made.get(m.group(1)), m.group(2), m.group(3)));
                Check.due("'" + line.trim() + "' gave " + got + ", whether that is told", got.equals(m.group(4)), true);
                calls++;
            } else {
                Check.due("'" + line + "' is no example", line.matches(" {4}\\w\\..*"), false);
            }
        }
        Check.due("there are examples", calls > 10, true);
    }

    private static Object call(WarmExtents x, String name, String row) throws Exception {
        String[] words = row.isEmpty() ? new String[0] : row.split(", ");
        for (Method m : METHODS) {
            if (m.getName().equals(name) && m.getParameterCount() == words.length) {
                Object[] given = new Object[words.length];
                for (int i = 0; i < words.length; i++) {
                    given[i] = m.getParameterTypes()[i] == boolean.class ? (Object) words[i].equals("true") : Integer.decode(words[i]);
                }
                return m.invoke(x, given);
            }
        }
        return "no such call";
    }

    private static void namesOfTests(String text) throws IOException {
        Check.sentence("README.md says how to run its tests");
        Check.due(".ci/run is told", text.contains("    .ci/run\n"), true);
        try (var files = Files.list(Path.of("src/test/java"))) {
            for (Path file : (Iterable<Path>) files::iterator) {
                String name = file.getFileName().toString().replace(".java", "");
                Check.due(name + " is told", !name.endsWith("Test") || text.contains("`" + name + "`"), true);
            }
        }
    }

    private static void namesOfCalls(String text) {
        Check.sentence("README.md says how to use the class");
        for (Method m : METHODS) {
            if (m.getDeclaringClass() == WarmExtents.class) {
                boolean told = Pattern.compile("`" + m.getName() + "[`(]").matcher(text).find();
                Check.due(m.getName() + " is told", told, true);
            }
        }
    }
}
