import java.lang.reflect.Method;
import java.lang.reflect.Modifier;
import java.nio.file.Files;
import java.nio.file.Path;
import java.util.HashMap;
import java.util.Map;
import java.util.regex.Matcher;
import java.util.regex.Pattern;

/**
 * Makes the calls of README.md's example, and names all that README.md must; it is run in the
 * project's root.
 */
public final class ReadmeTest {
    private static final Pattern CALL =
            Pattern.compile("(?:int (\\w+) = )?works\\.(\\w+)\\((.*)\\); *// (-?\\d+)(?::.*)?");

    private static final Map<String, Integer> names = new HashMap<>();

    public static void main(String[] args) throws Exception {
        String readme = Files.readString(Path.of("README.md"));
        makeCalls(readme);
        for (Method method : SpillslotWorks.class.getDeclaredMethods()) {
            if (Modifier.isPublic(method.getModifiers())) {
                Due.isTrue("README.md tells of " + method.getName(),
                        readme.contains("\n| `" + method.getName() + "("));
            }
        }
        Due.end();
    }

    private static void makeCalls(String readme) throws ReflectiveOperationException {
        int from = readme.indexOf("```java\n") + "```java\n".length();
        String[] lines = readme.substring(from, readme.indexOf("```\n", from)).split("\n");
        Due.isText("the first line", lines[0], "SpillslotWorks works = new SpillslotWorks();");
        SpillslotWorks works = new SpillslotWorks();
        for (int k = 1; k < lines.length; k++) {
            Matcher line = CALL.matcher(lines[k]);
            if (lines[k].isEmpty()) {
                continue;
            }
            Due.isTrue("a call and its answer: " + lines[k], line.matches());
            int got = answer(works, line.group(2), line.group(3));
            Due.is(lines[k], got, Integer.parseInt(line.group(4)));
            if (line.group(1) != null) {
                names.put(line.group(1), got);
            }
        }
    }

    private static int answer(SpillslotWorks works, String name, String told)
            throws ReflectiveOperationException {
        String[] parts = told.isEmpty() ? new String[0] : told.split(", ");
        Object[] values = new Object[parts.length];
        for (int k = 0; k < parts.length; k++) {
            values[k] = valueOf(parts[k]);
        }
        for (Method method : SpillslotWorks.class.getMethods()) {
            if (method.getName().equals(name)) {
                return (Integer) method.invoke(works, values);
            }
        }
        throw new IllegalStateException("no such call: " + name);
    }

    private static Object valueOf(String part) {
        if (part.equals("true") || part.equals("false")) {
            return part.equals("true");
        }
        return names.containsKey(part) ? names.get(part) : Integer.valueOf(part);
    }
}
