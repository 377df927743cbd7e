import java.io.IOException;
import java.io.UncheckedIOException;
import java.nio.file.Files;
import java.nio.file.Path;
import java.util.ArrayList;
import java.util.LinkedHashSet;
import java.util.List;
import java.util.Set;

/** Ties tests to the document: each row of an opened promise needs tests, and each test a row that stands there. */
final class Doc {
    private static final Path FILE = Path.of("../shared/DOC.md");

    private static String section = "";
    private static Set<String> rows = new LinkedHashSet<>();
    private static Set<String> tested = new LinkedHashSet<>();

    private Doc() {
    }

    /** Opens the section of a promise: what it does, and its parameters', 'Returns' and 'Throws' rows. */
    static void promise(int number) {
        close();
        open("Promise " + number + ":");
        // The first row is the call, between backquotes, and behind it what the call does.
        Set<String> all = new LinkedHashSet<>();
        for (String row : rows) {
            all.add(all.isEmpty() ? row.substring(row.indexOf("`: ") + 3) : row);
        }
        rows = all;
    }

    /** Opens a section that is no promise, by its sentences. */
    static void sentences(String title) {
        close();
        open(title);
        Set<String> all = new LinkedHashSet<>();
        for (String row : rows) {
            all.addAll(List.of(row.split("(?<=[.]) ")));
        }
        rows = all;
    }

    /** Tests of one row, or of one sentence, of the section that is open. */
    static void row(String row, Runnable... tests) {
        Check.due(section + " there is a test: " + row, tests.length > 0, true);
        tell(row);
        for (int i = 0; i < tests.length; i++) {
            Check.run(section + " " + row + " (test " + (i + 1) + ")", tests[i]);
        }
    }

    /** A sentence that names no boundary, or that only tells what other sentences mean. */
    static void noBoundary(String row) {
        tell(row);
    }

    /** Closes the open section: all its rows must have been tested. */
    static void close() {
        for (String row : rows) {
            Check.due(section + " has a test: " + row, tested.contains(row), true);
        }
        rows = new LinkedHashSet<>();
        tested = new LinkedHashSet<>();
    }

    private static void tell(String row) {
        Check.due(section + " the document says: " + row, rows.contains(row), true);
        tested.add(row);
    }

    private static void open(String title) {
        section = title;
        for (String part : part(title).split("\n\n|\n(?=- )")) {
            if (!part.isBlank()) {
                rows.add(part.trim().replaceAll("\\s+", " "));
            }
        }
        Check.due("the document has " + title, rows.isEmpty(), false);
    }

    private static String part(String title) {
        List<String> found = new ArrayList<>();
        boolean inside = false;
        for (String line : lines()) {
            if (line.startsWith("## ")) {
                inside = line.startsWith("## " + title);
            } else if (inside) {
                found.add(line);
            }
        }
        return String.join("\n", found);
    }

    private static List<String> lines() {
        try {
            return Files.readAllLines(FILE);
        } catch (IOException e) {
            throw new UncheckedIOException(e);
        }
    }
}
