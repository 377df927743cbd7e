import java.lang.reflect.Field;

/**
 * Promise 32 from inside: the theorem holds whatever is called, so only words that are put out of their order by force
 * show that isTrue looks at all that it tells of.
 */
public final class TheoremTest {
    public static void main(String[] args) throws ReflectiveOperationException {
        // In each of the first four just one part of the theorem does not hold.
        falseDue("the longest word of a place", "b", false, "b", "a");
        falseDue("what the text has in common with words", "abc", false, "aba", "a");
        falseDue("what two words have in common", "", false, "a", "b", "ab");
        falseDue("the order of the words as written", "", true, "b", "a");
        falseDue("words side by side", "a", true, "ab", "b", "a");
        Check.end();
    }

    /** Words by the order that they are brought into; in their own order all must be true. */
    private static void falseDue(String what, String text, boolean orderly, String... words)
            throws ReflectiveOperationException {
        Stemspan x = new Stemspan();
        if (!orderly) {
            Check.setCodes(x, "b");
        }
        for (String word : words) {
            Check.putAll(x, word + "=1");
        }
        Check.setText(x, text);
        Check.due(what + ", in order", x.isTrue(), true);
        bringIntoOrder(x, words);
        Check.due(what + ", out of order", x.isTrue(), false);
    }

    private static void bringIntoOrder(Stemspan x, String... words) throws ReflectiveOperationException {
        Object[] rows = (Object[]) inside(inside(x, "list"), "rows");
        Object[] sorted = rows.clone();
        for (int i = 0; i < words.length; i++) {
            int rank = 0;
            for (String other : words) {
                rank += other.compareTo(words[i]) < 0 ? 1 : 0;
            }
            rows[i] = sorted[rank];
        }
    }

    private static Object inside(Object whole, String name) throws ReflectiveOperationException {
        Field field = whole.getClass().getDeclaredField(name);
        field.setAccessible(true);
        return field.get(whole);
    }
}
