import java.util.NoSuchElementException;

/** Promises 28 to 31: codes. */
public final class CodesTest {
    private static final String[] ORDERLY = {"a", "ba", "bb", "bca", "bcc", "f"};

    public static void main(String[] args) {
        code();
        write();
        orderly();
        read();
        writeAll();
        writeAllThrows();
        Check.end();
    }

    private static void code() {
        Stemspan x = Check.withText("fed");
        Check.due("code", x.code('b'), 1);
        Check.due("code: text stays", Check.textOf(x), "fed");
        Check.setText(x, "ab");
        Check.due("code again", x.code('b'), 3);
        Check.due("code again", x.code('b'), 2);
        Check.setText(x, "abc");
        x.write();
        Check.due("code: written so", Check.textOf(x), "aabc");
        for (char sign : new char[] {'g', '`', 'B', (char) 0, (char) 65535}) {
            Check.dueThrow("code, no sign", x, IllegalArgumentException.class, () -> x.code(sign));
        }
        Check.dueThrow("code of four signs", x, UnsupportedOperationException.class, () -> x.code('a'));
        Check.setText(x, "");
        Check.dueThrow("code without signs", x, UnsupportedOperationException.class, () -> x.code('a'));
        Check.dueThrow("code, both", x, IllegalArgumentException.class, () -> x.code('g'));
    }

    private static void write() {
        Stemspan x = new Stemspan();
        Check.due("write none", x.write(), 0);
        Check.setCodes(x, ORDERLY);
        Check.setText(x, "abcdef");
        Check.due("write", x.write(), 12);
        Check.due("write: text", Check.textOf(x), "ababbbcabccf");
        Check.setText(x, "bbbbbbbbbbbb");
        Check.due("write up to full", x.write(), 24);
        Check.setText(x, "bbbbbbbbbbbd");
        Check.dueThrow("write one too many", x, IllegalStateException.class, () -> x.write());
        Check.setText(x, "dddddddddddddddddddddddd");
        Check.dueThrow("write much too many", x, IllegalStateException.class, () -> x.write());
        Check.setCodes(x, "fff", "a", "a", "aa", "b", "a");
        Check.setText(x, "abcdef");
        Check.due("write by codes that are not orderly", x.write(), 9);
        Check.due("write: text", Check.textOf(x), "fffaaaaba");
        Check.due("write: no words", x.words(), 0);
    }

    private static void orderly() {
        Stemspan x = new Stemspan();
        Check.due("the first codes are orderly", isOrderly(x), true);
        Check.setCodes(x, ORDERLY);
        Check.due("orderly", isOrderly(x), true);
        String[][] wrong = {{"b", "a", "c", "d", "e", "f"}, {"a", "a", "c", "d", "e", "f"},
            {"a", "ab", "c", "d", "e", "f"}, {"a", "b", "c", "d", "f", "fa"}, {"a", "ba", "b", "d", "e", "f"},
            {"aa", "ab", "ac", "ad", "ae", "a"}, {"b", "c", "d", "e", "f", "a"}, {"a", "c", "b", "d", "e", "f"},
            {"a", "b", "c", "d", "f", "e"}, {"ab", "b", "c", "d", "e", "bca"}, {"a", "b", "c", "cd", "e", "f"}};
        for (String[] codes : wrong) {
            Check.setCodes(x, codes);
            Check.due("not orderly: " + String.join(" ", codes), isOrderly(x), false);
        }
        Check.setCodes(x, "aaa", "aab", "aac", "ab", "ac", "b");
        Check.due("orderly", isOrderly(x), true);
    }

    private static boolean isOrderly(Stemspan x) {
        try {
            x.read();
            return true;
        } catch (UnsupportedOperationException e) {
            return false;
        }
    }

    private static void read() {
        Stemspan x = new Stemspan();
        Check.due("read none", x.read(), 0);
        Check.setText(x, "fabced");
        Check.due("read by the first codes", x.read(), 6);
        Check.due("read: text", Check.textOf(x), "fabced");
        Check.setCodes(x, ORDERLY);
        Check.due("read none by codes", x.read(), 0);
        Check.setText(x, "ababbbcabccf");
        Check.due("read", x.read(), 6);
        Check.due("read: text", Check.textOf(x), "abcdef");
        Check.setText(x, "aaaaaaaaaaaaaaaaaaaaaaaa");
        Check.due("read a full text", x.read(), 24);
        for (String text : new String[] {"b", "ab", "bc", "abc", "c", "ac", "bcb", "fbcad", "e",
            "aaaaaaaaaaaaaaaaaaaaaaab"}) {
            Check.setText(x, text);
            Check.dueThrow("read " + text, x, NoSuchElementException.class, () -> x.read());
        }
        Check.setCodes(x, "a", "b", "c", "d", "f", "e");
        Check.setText(x, "a");
        Check.dueThrow("read, not orderly", x, UnsupportedOperationException.class, () -> x.read());
        Check.setCodes(x, "b", "bb", "c", "d", "e", "f");
        Check.setText(x, "a");
        Check.dueThrow("read, both", x, UnsupportedOperationException.class, () -> x.read());
    }

    private static void writeAll() {
        Stemspan x = new Stemspan();
        Check.due("writeAll of none", x.writeAll(), 0);
        Check.putAll(x, "a=1", "ab=2", "f=3", "bd=4", "fab=5");
        Check.setText(x, "bdbdbdbdbdbdbdbdbdbdbdbd");
        Check.due("writeAll by the first codes", x.writeAll(), 0);
        Check.setCodes(x, ORDERLY);
        Check.setText(x, "bdbdbdbdbdbdbdbdbdbdbdbd");
        Check.due("writeAll", x.writeAll(), 3);
        Check.due("writeAll: text stays", Check.textOf(x), "bdbdbdbdbdbdbdbdbdbdbdbd");
        Check.due("writeAll: words", Check.wordsOf(x), "a=1 aba=2 babca=4 f=3 faba=5");
        Check.setCodes(x, "b", "c", "d", "e", "fa", "fb");
        Check.due("writeAll, with as many signs", x.writeAll(), 2);
        Check.due("writeAll: words", Check.wordsOf(x), "b=1 bcb=2 cbcdb=4 fb=3 fbbcb=5");
    }

    private static void writeAllThrows() {
        Stemspan x = new Stemspan();
        Check.setCodes(x, ORDERLY);
        Check.putAll(x, "a=1", "bbbbb=2");
        Check.due("writeAll up to ten signs", x.writeAll(), 1);
        Check.setText(x, "bababababa");
        Check.due("writeAll: number", x.number(), 2);
        Check.putAll(x, "abbbbb=3");
        Check.dueThrow("writeAll, too many signs", x, IllegalStateException.class, () -> x.writeAll());
        Check.setCodes(x, "bb", "ba", "bc", "bd", "be", "bf");
        Check.dueThrow("writeAll, both", x, UnsupportedOperationException.class, () -> x.writeAll());
        Stemspan y = new Stemspan();
        Check.setCodes(y, "a", "b", "c", "cd", "e", "f");
        Check.dueThrow("writeAll of none, not orderly", y, UnsupportedOperationException.class, () -> y.writeAll());
    }
}
