import java.io.IOException;
import java.lang.reflect.InvocationTargetException;
import java.lang.reflect.Method;
import java.nio.file.Files;
import java.nio.file.Path;
import java.util.HashMap;
import java.util.Map;
import java.util.regex.Matcher;
import java.util.regex.Pattern;

/** README.md shows calls, each with its answer behind it: a reader who types them must get just these. */
public final class ReadmeTest {
    private static final String NEW_OBJECT = "Stemspan x = new Stemspan();";
    private static final Pattern CALL =
        Pattern.compile("x\\.(\\w+)\\((.*)\\); +// (throws \\w+|'.'|-?\\d+|true|false)(:.*)?");

    private static final Map<String, Method> methods = new HashMap<>();
    private static Stemspan x = null;
    private static int calls = 0;

    public static void main(String[] args) throws IOException, IllegalAccessException {
        for (Method method : Stemspan.class.getMethods()) {
            if (method.getDeclaringClass() == Stemspan.class) {
                methods.put(method.getName(), method);
            }
        }
        String all = Files.readString(Path.of("README.md"));
        for (String name : methods.keySet()) {
            Check.due("the table has " + name, tableOf(all).contains("`" + name + "`"), true);
        }
        blocks(all);
        Check.due("calls are shown", calls > 20, true);
        Check.end();
    }

    private static String tableOf(String all) {
        StringBuilder table = new StringBuilder();
        for (String line : all.split("\n")) {
            table.append(line.startsWith("|") ? line : "");
        }
        return table.toString();
    }

    private static void blocks(String all) throws IllegalAccessException {
        boolean inside = false;
        for (String line : all.split("\n")) {
            if (line.startsWith("```")) {
                inside = line.equals("```java");
                x = null;
            } else if (inside && line.equals(NEW_OBJECT)) {
                x = new Stemspan();
            } else if (inside) {
                shown(line);
            }
        }
    }

    private static void shown(String line) throws IllegalAccessException {
        Matcher parts = CALL.matcher(line);
        boolean good = parts.matches() && methods.containsKey(parts.group(1)) && x != null;
        Check.due("a call with its answer: " + line, good, true);
        if (good) {
            calls++;
            Check.due(line, answer(methods.get(parts.group(1)), parts.group(2)), parts.group(3));
        }
    }

    private static String answer(Method method, String told) throws IllegalAccessException {
        String[] parts = told.isEmpty() ? new String[0] : told.split(", ");
        Object[] given = new Object[parts.length];
        for (int i = 0; i < parts.length; i++) {
            if (parts[i].startsWith("'")) {
                given[i] = parts[i].charAt(1);
            } else {
                given[i] = Integer.parseInt(parts[i]);
            }
        }
        try {
            Object got = method.invoke(x, given);
            return got instanceof Character ? "'" + got + "'" : String.valueOf(got);
        } catch (InvocationTargetException e) {
            return "throws " + e.getCause().getClass().getSimpleName();
        }
    }
}
