import java.util.NoSuchElementException;

/** Promises 17 to 23: beginnings. */
public final class BeginningsTest {
    public static void main(String[] args) {
        begun();
        begunAt();
        sum();
        gone();
        longest();
        shared();
        twin();
        Check.end();
    }

    private static Stemspan some() {
        Stemspan x = new Stemspan();
        Check.putAll(x, "a=1", "ab=20", "abc=300", "abd=400", "ac=50", "b=6", "ba=7", "abcdefabcd=999");
        return x;
    }

    private static void begun() {
        Stemspan x = some();
        String[] texts = {"", "a", "ab", "abc", "abcd", "abcdefabcd", "abcdefabcda", "b", "ba", "baa", "c",
            "abcdefabcdabcdefabcdabcd"};
        int[] counts = {8, 6, 4, 2, 1, 1, 0, 2, 1, 0, 0, 0};
        for (int i = 0; i < texts.length; i++) {
            Check.setText(x, texts[i]);
            Check.due("begun of " + texts[i], x.begun(), counts[i]);
            Check.due("begun: text stays", Check.textOf(x), texts[i]);
        }
        Check.due("begun of none", new Stemspan().begun(), 0);
    }

    private static void begunAt() {
        Stemspan x = some();
        String[] texts = {"ab", "abc", "abcdefabcd", "abd"};
        int[] numbers = {20, 300, 999, 400};
        for (int i = 0; i < texts.length; i++) {
            Check.setText(x, "ab");
            Check.due("begunAt", x.begunAt(i), numbers[i]);
            Check.due("begunAt: text", Check.textOf(x), texts[i]);
        }
        Check.setText(x, "ab");
        for (int index : new int[] {-1, 4, 5, Integer.MIN_VALUE, Integer.MAX_VALUE}) {
            Check.dueThrow("begunAt, no such one", x, NoSuchElementException.class, () -> x.begunAt(index));
        }
        Check.setText(x, "");
        Check.due("begunAt of all", x.begunAt(7), 7);
        Check.due("begunAt: text", Check.textOf(x), "ba");
        Check.setText(x, "c");
        Check.dueThrow("begunAt of none", x, NoSuchElementException.class, () -> x.begunAt(0));
        Stemspan y = new Stemspan();
        Check.dueThrow("begunAt without words", y, NoSuchElementException.class, () -> y.begunAt(0));
    }

    private static void sum() {
        Stemspan x = some();
        String[] texts = {"", "a", "ab", "abc", "b", "ba", "baa", "c", "abcdefabcdabcdefabcdabcd"};
        int[] sums = {1783, 1770, 1719, 1299, 13, 7, 0, 0, 0};
        for (int i = 0; i < texts.length; i++) {
            Check.setText(x, texts[i]);
            Check.due("sum of " + texts[i], x.sum(), sums[i]);
            Check.due("sum: text stays", Check.textOf(x), texts[i]);
        }
        Check.due("sum of none", new Stemspan().sum(), 0);
    }

    private static void gone() {
        Stemspan x = some();
        Check.setText(x, "abc");
        Check.due("gone", x.gone(), 2);
        Check.due("gone: text stays", Check.textOf(x), "abc");
        Check.due("gone: words", Check.wordsOf(x), "a=1 ab=20 abd=400 ac=50 b=6 ba=7");
        Check.due("gone again", x.gone(), 0);
        Check.setText(x, "a");
        Check.due("gone of the first ones", x.gone(), 4);
        Check.due("gone: words", Check.wordsOf(x), "b=6 ba=7");
        Check.putAll(x, "aa=3", "f=4");
        Check.due("gone, then put", Check.wordsOf(x), "aa=3 b=6 ba=7 f=4");
        Check.due("gone of all", x.gone(), 4);
        Check.due("gone: words", x.words(), 0);
        Check.fill(x, 24);
        Check.due("gone of a full list", x.gone(), 24);
        Check.fill(x, 24);
        Check.due("filled anew", x.words(), 24);
    }

    private static void longest() {
        Stemspan x = some();
        Check.setText(x, "abcabdcbaabcdefabcd");
        int[] due = {3, 1, 0, 3, 1, 0, 0, 2, 1, 10, 1, 0, 0, 0, 0, 3, 1, 0, 0, 0};
        for (int place = 0; place < due.length; place++) {
            Check.due("longest at " + place, x.longest(place), due[place]);
        }
        for (int place : new int[] {-1, 20, Integer.MIN_VALUE, Integer.MAX_VALUE}) {
            Check.dueThrow("longest, no place", x, IndexOutOfBoundsException.class, () -> x.longest(place));
        }
        Stemspan y = new Stemspan();
        Check.due("longest of none", y.longest(0), 0);
        Check.dueThrow("longest of none", y, IndexOutOfBoundsException.class, () -> y.longest(1));
        Check.putAll(y, "aa=1", "aabbb=2", "aac=3");
        Check.setText(y, "aabbaabbb");
        Check.due("longest, where a longer one is cut off", y.longest(0), 2);
        Check.due("longest, up to the end", y.longest(4), 5);
    }

    private static void shared() {
        Stemspan x = some();
        String[] texts = {"", "a", "abcdeb", "abe", "c", "bf", "abcdefabcdabcdefabcdabcd", "ad"};
        int[] due = {0, 1, 5, 2, 0, 1, 10, 1};
        for (int i = 0; i < texts.length; i++) {
            Check.setText(x, texts[i]);
            Check.due("shared of " + texts[i], x.shared(), due[i]);
            Check.due("shared: text stays", Check.textOf(x), texts[i]);
        }
        Check.due("shared without words", Check.withText("abc").shared(), 0);
    }

    private static void twin() {
        Stemspan x = new Stemspan();
        Check.dueThrow("twin of none", x, NoSuchElementException.class, () -> x.twin());
        Check.putAll(x, "abcd=1");
        Check.dueThrow("twin of one", x, NoSuchElementException.class, () -> x.twin());
        Check.putAll(x, "b=2");
        Check.due("twin, nothing in common", x.twin(), 0);
        Check.putAll(x, "abd=3");
        Check.due("twin", x.twin(), 2);
        Check.putAll(x, "abcdefabc=5");
        Check.due("twin, one begins with the other", x.twin(), 4);
        Check.putAll(x, "fffffffffa=5", "fffffffffb=6");
        Check.due("twin at most", x.twin(), 9);
        Check.due("twin: words stay", x.words(), 6);
    }
}
