import java.util.NoSuchElementException;

/** Promises 10 to 16: words. */
public final class WordsTest {
    public static void main(String[] args) {
        put();
        take();
        number();
        words();
        rank();
        word();
        near();
        Check.end();
    }

    private static void put() {
        Stemspan x = Check.withText("ab");
        Check.due("put a new word", x.put(0), -1);
        Check.due("put: text stays", Check.textOf(x), "ab");
        Check.due("put again", x.put(999), 0);
        Check.due("put once more", x.put(5), 999);
        Check.due("put: one word", x.words(), 1);
        Check.putAll(x, "b=1", "a=2", "abc=3", "aab=4", "abcdefabcd=6");
        Check.due("put: in order", Check.wordsOf(x), "a=2 aab=4 ab=5 abc=3 abcdefabcd=6 b=1");
        for (int number : new int[] {-1, 1000, Integer.MIN_VALUE, Integer.MAX_VALUE}) {
            Check.dueThrow("put out of range", x, IllegalArgumentException.class, () -> x.put(number));
        }
        Check.dueThrow("put no signs", x, UnsupportedOperationException.class, () -> x.put(1));
        Check.setText(x, "abcdefabcde");
        Check.dueThrow("put eleven signs", x, UnsupportedOperationException.class, () -> x.put(1));
        Check.dueThrow("put both", x, IllegalArgumentException.class, () -> x.put(1000));
        putIntoFull();
    }

    private static void putIntoFull() {
        Stemspan x = new Stemspan();
        Check.fill(x, 23);
        Check.setText(x, "ff");
        Check.due("put the last one", x.put(77), -1);
        Check.setText(x, "fa");
        Check.dueThrow("put into full", x, IllegalStateException.class, () -> x.put(1));
        Check.dueThrow("put into full, wrong number", x, IllegalArgumentException.class, () -> x.put(-1));
        Check.setText(x, "");
        Check.dueThrow("put into full, no signs", x, UnsupportedOperationException.class, () -> x.put(1));
        Check.setText(x, "ff");
        Check.due("put a word again into full", x.put(78), 77);
        Check.due("put: number", x.number(), 78);
        x.take();
        Check.setText(x, "fa");
        Check.due("put once there is room", x.put(9), -1);
    }

    private static void take() {
        Stemspan x = new Stemspan();
        Check.dueThrow("take of none", x, NoSuchElementException.class, () -> x.take());
        Check.putAll(x, "a=1", "ab=2", "abc=3", "b=4");
        Check.setText(x, "ab");
        Check.due("take", x.take(), 2);
        Check.due("take: text stays", Check.textOf(x), "ab");
        Check.due("take: words", Check.wordsOf(x), "a=1 abc=3 b=4");
        Check.dueThrow("take twice", x, NoSuchElementException.class, () -> x.take());
        Check.setText(x, "abcd");
        Check.dueThrow("take what only begins so", x, NoSuchElementException.class, () -> x.take());
        Check.setText(x, "abcdefabcdefabc");
        Check.dueThrow("take what is too long", x, NoSuchElementException.class, () -> x.take());
        Check.setText(x, "b");
        Check.due("take the last one", x.take(), 4);
        Check.setText(x, "a");
        Check.due("take the first one", x.take(), 1);
        Check.due("take: words", Check.wordsOf(x), "abc=3");
    }

    private static void number() {
        Stemspan x = new Stemspan();
        Check.dueThrow("number of none", x, NoSuchElementException.class, () -> x.number());
        Check.putAll(x, "a=1", "ab=0", "f=999");
        Check.dueThrow("number without signs", x, NoSuchElementException.class, () -> x.number());
        Check.setText(x, "ab");
        Check.due("number", x.number(), 0);
        Check.setText(x, "f");
        Check.due("number", x.number(), 999);
        Check.due("number: text stays", Check.textOf(x), "f");
        Check.setText(x, "fa");
        Check.dueThrow("number of no word", x, NoSuchElementException.class, () -> x.number());
    }

    private static void words() {
        Stemspan x = new Stemspan();
        Check.due("words of none", x.words(), 0);
        Check.fill(x, 24);
        Check.due("words of all", x.words(), 24);
        Check.setText(x, "aa");
        x.put(5);
        Check.due("words, put again", x.words(), 24);
        x.take();
        Check.due("words, one taken", x.words(), 23);
    }

    private static void rank() {
        Stemspan x = Check.withText("ab");
        Check.due("rank among none", x.rank(), 0);
        Check.putAll(x, "a=1", "ab=2", "abc=3", "b=4", "f=5");
        String[] texts = {"", "a", "aa", "ab", "aba", "abc", "abca", "ac", "b", "c", "f", "fa",
            "ffffffffffffffffffffffff", "aaaaaaaaaaaaaaaaaaaaaaaa"};
        int[] ranks = {0, 0, 1, 1, 2, 2, 3, 3, 3, 4, 4, 5, 5, 1};
        for (int i = 0; i < texts.length; i++) {
            Check.setText(x, texts[i]);
            Check.due("rank of " + texts[i], x.rank(), ranks[i]);
            Check.due("rank: text stays", Check.textOf(x), texts[i]);
        }
    }

    private static void word() {
        Stemspan x = Check.withText("ab");
        Check.dueThrow("word of none", x, IndexOutOfBoundsException.class, () -> x.word(0));
        Check.putAll(x, "b=1", "abcdefabcd=2", "a=3");
        String[] texts = {"a", "abcdefabcd", "b"};
        for (int rank = 0; rank < texts.length; rank++) {
            Check.setText(x, "ffffffffffffffffffffffff");
            Check.due("word", x.word(rank), texts[rank].length());
            Check.due("word: text", Check.textOf(x), texts[rank]);
        }
        for (int rank : new int[] {-1, 3, 24, Integer.MIN_VALUE, Integer.MAX_VALUE}) {
            Check.dueThrow("word, no rank", x, IndexOutOfBoundsException.class, () -> x.word(rank));
        }
        x.type('f');
        Check.due("word: words stay", Check.wordsOf(x), "a=3 abcdefabcd=2 b=1");
    }

    private static void near() {
        Stemspan x = new Stemspan();
        Check.putAll(x, "ab=1", "abc=2", "c=3");
        String[] texts = {"", "a", "ab", "aba", "abc", "abcd", "b", "c", "f", "ffffffffffffffffffffffff"};
        String[] floor = {"", "", "ab", "ab", "abc", "abc", "abc", "c", "c", "c"};
        String[] ceiling = {"ab", "ab", "ab", "abc", "abc", "c", "c", "c", "", ""};
        String[] lower = {"", "", "", "ab", "ab", "abc", "abc", "abc", "c", "c"};
        String[] higher = {"ab", "ab", "abc", "abc", "c", "c", "c", "", "", ""};
        for (int i = 0; i < texts.length; i++) {
            nearOne(x, texts[i], 'f', floor[i]);
            nearOne(x, texts[i], 'c', ceiling[i]);
            nearOne(x, texts[i], 'l', lower[i]);
            nearOne(x, texts[i], 'h', higher[i]);
        }
        Check.setText(x, "b");
        for (char how : new char[] {'a', 'F', 'e', 'g', 'k', 'm', 'i', (char) 0, (char) 65535}) {
            Check.dueThrow("near, no how", x, IllegalArgumentException.class, () -> x.near(how));
        }
        Stemspan y = Check.withText("b");
        Check.dueThrow("near of none, no how", y, IllegalArgumentException.class, () -> y.near('x'));
        nearOne(y, "b", 'f', "");
        nearOne(y, "b", 'c', "");
        nearOne(y, "b", 'l', "");
        nearOne(y, "b", 'h', "");
    }

    private static void nearOne(Stemspan x, String text, char how, String want) {
        String call = "near " + how + " of " + text;
        Check.setText(x, text);
        if (want.isEmpty()) {
            Check.dueThrow(call, x, NoSuchElementException.class, () -> x.near(how));
            return;
        }
        Check.due(call, x.near(how), want.equals("ab") ? 1 : want.equals("abc") ? 2 : 3);
        Check.due(call, Check.textOf(x), want);
    }
}
