import java.io.IOException;
import java.lang.reflect.Constructor;
import java.lang.reflect.Executable;
import java.lang.reflect.Field;
import java.lang.reflect.Method;
import java.lang.reflect.Modifier;
import java.nio.file.Files;
import java.nio.file.Path;
import java.util.ArrayList;
import java.util.Arrays;
import java.util.List;
import java.util.TreeSet;

/** The public face as the document writes it, and the rules of LANGUAGE.md that can be seen from outside. */
public final class FaceTest {
    private static final String[] FACE = {
        "int type(char) IllegalArgumentException IllegalStateException",
        "int typeMore(int int) IllegalArgumentException IllegalStateException",
        "int typeAt(int char) IndexOutOfBoundsException IllegalArgumentException IllegalStateException",
        "int drop() NoSuchElementException",
        "int clip(int int) IndexOutOfBoundsException",
        "int wipe()",
        "boolean turn()",
        "char signAt(int) IndexOutOfBoundsException",
        "int put(int) IllegalArgumentException UnsupportedOperationException IllegalStateException",
        "int take() NoSuchElementException",
        "int number() NoSuchElementException",
        "int words()",
        "int rank()",
        "int word(int) IndexOutOfBoundsException",
        "int near(char) IllegalArgumentException NoSuchElementException",
        "int begun()",
        "int begunAt(int) NoSuchElementException",
        "int sum()",
        "int gone()",
        "int longest(int) IndexOutOfBoundsException",
        "int shared()",
        "int twin() NoSuchElementException",
        "int pieces()",
        "int piece(int) NoSuchElementException",
        "long cuts()",
        "int fewest()",
        "int code(char) IllegalArgumentException UnsupportedOperationException",
        "int write() IllegalStateException",
        "int read() UnsupportedOperationException NoSuchElementException",
        "int writeAll() UnsupportedOperationException IllegalStateException",
        "boolean isTrue()",
        "long checksum()"};
    private static final String[] NOT_IN_SOURCE = {"catch", "try ", "finally", "synchronized", "assert", "->", "::",
        "instanceof", "System.", "Thread", "Random", "toString", "hashCode", "equals(", "package ", "native", "@"};

    public static void main(String[] args) throws IOException {
        face();
        classes();
        source();
        Check.end();
    }

    private static void face() {
        Class<?> c = Stemspan.class;
        Check.due("the class is public and final", c.getModifiers(), Modifier.PUBLIC | Modifier.FINAL);
        TreeSet<String> found = new TreeSet<>();
        for (Method method : c.getDeclaredMethods()) {
            if (!Modifier.isPrivate(method.getModifiers())) {
                Check.due(method.getName() + " is public only", method.getModifiers(), Modifier.PUBLIC);
                found.add(told(method));
            }
        }
        Check.due("methods", String.join("\n", found), String.join("\n", new TreeSet<>(Arrays.asList(FACE))));
        Constructor<?>[] all = c.getDeclaredConstructors();
        Check.due("one constructor", all.length, 1);
        Check.due("constructor is public", all[0].getModifiers(), Modifier.PUBLIC);
        Check.due("constructor takes nothing", all[0].getParameterCount(), 0);
    }

    private static String told(Method method) {
        StringBuilder line = new StringBuilder(method.getReturnType().getSimpleName());
        line.append(' ').append(method.getName()).append('(');
        for (int i = 0; i < method.getParameterCount(); i++) {
            line.append(i == 0 ? "" : " ").append(method.getParameterTypes()[i].getSimpleName());
        }
        line.append(')');
        for (Class<?> thrown : method.getExceptionTypes()) {
            line.append(' ').append(thrown.getSimpleName());
        }
        return line.toString();
    }

    private static void classes() {
        List<Class<?>> all = new ArrayList<>(Arrays.asList(Stemspan.class.getDeclaredClasses()));
        List<String> face = new ArrayList<>();
        for (String line : FACE) {
            face.add(line.substring(line.indexOf(' ') + 1, line.indexOf('(')));
        }
        for (Class<?> c : all) {
            Check.due(c + " is private, static, final", c.getModifiers(),
                Modifier.PRIVATE | Modifier.STATIC | Modifier.FINAL);
            for (Method method : c.getDeclaredMethods()) {
                Check.due(c + "." + method.getName() + " bears no public name", face.contains(method.getName()), false);
            }
        }
        all.add(Stemspan.class);
        Check.due("at most twelve classes", all.size() <= 12, true);
        for (Class<?> c : all) {
            int fields = 0;
            for (Field field : c.getDeclaredFields()) {
                boolean still = Modifier.isStatic(field.getModifiers());
                fields += still ? 0 : 1;
                Check.due(c + "." + field.getName() + " is private", Modifier.isPrivate(field.getModifiers()), true);
                Check.due(field.getName(), !still || Modifier.isFinal(field.getModifiers()), true);
            }
            Check.due(c + " has at most twenty fields", fields <= 20, true);
            List<Executable> calls = new ArrayList<>(Arrays.asList(c.getDeclaredMethods()));
            calls.addAll(Arrays.asList(c.getDeclaredConstructors()));
            for (Executable call : calls) {
                Check.due(call + " takes at most seven", call.getParameterCount() <= 7, true);
            }
        }
    }

    private static void source() throws IOException {
        List<String> lines = Files.readAllLines(Path.of("src/main/java/Stemspan.java"));
        int imports = 0;
        for (String line : lines) {
            for (String word : NOT_IN_SOURCE) {
                Check.due("no '" + word + "' in: " + line, line.contains(word), false);
            }
            imports += line.startsWith("import ") ? 1 : 0;
            Check.due("plain signs in: " + line, line.chars().allMatch(c -> c >= 32 && c < 127), true);
        }
        Check.due("one import", imports, 1);
    }
}
