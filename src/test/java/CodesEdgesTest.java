import java.util.NoSuchElementException;

/** The edges that promises 28 to 31 name, row by row: codes. */
public final class CodesEdgesTest {
    private static final String FULL = "abcdefabcdefabcdefabcdef";
    private static final String[] ORDERLY = {"a", "ba", "bb", "bca", "bcc", "f"};
    private static final String[] NOT_ORDERLY = {"a", "b", "c", "d", "f", "e"};
    private static final char[] NO_SIGNS = {'`', 'g', 'A', 'F', ' ', '0', (char) 0, (char) 5, (char) 353, (char) 65535};

    public static void main(String[] args) {
        code();
        write();
        read();
        writeAll();
        Doc.close();
        Check.end();
    }

    private static Stemspan by(String[] codes, String text, String... entries) {
        Stemspan x = new Stemspan();
        Check.setCodes(x, codes);
        Check.putAll(x, entries);
        Check.setText(x, text);
        return x;
    }

    private static void code() {
        Doc.promise(28);
        Doc.row("Makes the text the code of a sign; the text stays.",
            CodesEdgesTest::codeOfOneAndThreeSigns,
            CodesEdgesTest::codeLeavesTheOthers);
        Doc.row("- `sign`: the sign", CodesEdgesTest::codeOfFirstAndLast);
        Doc.row("Returns how many signs the code had that it had.", CodesEdgesTest::codeAnswersTheOldSize);
        Doc.row("Throws `IllegalArgumentException` if it is no sign",
            CodesEdgesTest::codeOfNoSign,
            CodesEdgesTest::codeOfNoSignComesFirst);
        Doc.row("Throws `UnsupportedOperationException` if the text has no signs, or more than 3",
            CodesEdgesTest::codeWithoutSigns,
            CodesEdgesTest::codeOfMoreThanThree);
    }

    private static void codeOfOneAndThreeSigns() {
        for (String code : new String[] {"f", "fe", "fed"}) {
            Stemspan x = Check.withText(code);
            x.code('b');
            Check.due("text", Check.textOf(x), code);
            Check.setText(x, "b");
            Check.due("write", x.write(), code.length());
            Check.due("code", Check.textOf(x), code);
        }
    }

    private static void codeLeavesTheOthers() {
        Stemspan x = Check.withText("fed");
        x.code('b');
        x.type('f');
        Check.setText(x, "abcdef");
        x.write();
        Check.due("only b is written anew", Check.textOf(x), "afedcdef");
    }

    private static void codeOfFirstAndLast() {
        Stemspan x = Check.withText("c");
        Check.due("a", x.code('a'), 1);
        Check.due("f", x.code('f'), 1);
        Check.setText(x, "abcdef");
        x.write();
        Check.due("written", Check.textOf(x), "cbcdec");
    }

    private static void codeAnswersTheOldSize() {
        Stemspan x = Check.withText("fed");
        Check.due("the first code", x.code('b'), 1);
        Check.due("of three", x.code('b'), 3);
        x.drop();
        Check.due("of three", x.code('b'), 3);
        x.drop();
        Check.due("of two", x.code('b'), 2);
        Check.due("of one", x.code('b'), 1);
    }

    private static void codeOfNoSign() {
        Stemspan x = Check.withText("ab");
        for (char sign : NO_SIGNS) {
            Check.dueThrow("sign " + (int) sign, x, IllegalArgumentException.class, () -> x.code(sign));
        }
    }

    private static void codeOfNoSignComesFirst() {
        for (String text : new String[] {"", "abcd", FULL}) {
            Stemspan x = Check.withText(text);
            Check.dueThrow("g, " + text, x, IllegalArgumentException.class, () -> x.code('g'));
            Check.dueThrow("`, " + text, x, IllegalArgumentException.class, () -> x.code('`'));
        }
    }

    private static void codeWithoutSigns() {
        Stemspan x = new Stemspan();
        Check.dueThrow("a", x, UnsupportedOperationException.class, () -> x.code('a'));
        Check.dueThrow("f", x, UnsupportedOperationException.class, () -> x.code('f'));
    }

    private static void codeOfMoreThanThree() {
        for (int size = 4; size <= 24; size++) {
            Stemspan x = Check.withText(FULL.substring(0, size));
            Check.dueThrow(size + " signs", x, UnsupportedOperationException.class, () -> x.code('a'));
        }
    }

    private static void write() {
        Doc.promise(29);
        Doc.row("Writes the text by the codes, whether they are orderly or not.",
            CodesEdgesTest::writeByOrderly,
            CodesEdgesTest::writeByNotOrderly,
            CodesEdgesTest::writeLeavesWords);
        Doc.row("Returns how many signs the text has then.",
            CodesEdgesTest::writeNoSigns,
            CodesEdgesTest::writeOneAndThree);
        Doc.row("Throws `IllegalStateException` if it would have more than 24",
            CodesEdgesTest::writeUpToFull,
            CodesEdgesTest::writeOverFull);
    }

    private static void writeByOrderly() {
        Stemspan x = by(ORDERLY, "fedcba");
        Check.due("write", x.write(), 12);
        Check.due("text", Check.textOf(x), "fbccbcabbbaa");
    }

    private static void writeByNotOrderly() {
        Stemspan x = by(NOT_ORDERLY, "abcdef");
        Check.due("not in order", x.write(), 6);
        Check.due("text", Check.textOf(x), "abcdfe");
        Stemspan y = by(new String[] {"f", "f", "f", "ff", "ff", "fff"}, "abcdef");
        Check.due("all alike", y.write(), 10);
        Check.due("text", Check.textOf(y), "ffffffffff");
    }

    private static void writeLeavesWords() {
        Stemspan x = by(ORDERLY, "b", "b=1", "bd=2");
        x.write();
        Check.due("words", Check.wordsOf(x), "b=1 bd=2");
    }

    private static void writeNoSigns() {
        Check.due("first codes", new Stemspan().write(), 0);
        Check.due("orderly", by(ORDERLY, "").write(), 0);
        Check.due("not orderly", by(NOT_ORDERLY, "").write(), 0);
    }

    private static void writeOneAndThree() {
        Check.due("one by one", by(ORDERLY, "a").write(), 1);
        Check.due("one by three", by(ORDERLY, "d").write(), 3);
        Check.due("24 by one each", by(NOT_ORDERLY, FULL).write(), 24);
    }

    private static void writeUpToFull() {
        Stemspan x = by(ORDERLY, "bbbbbbbbbbbb");
        Check.due("twelve by two", x.write(), 24);
        Check.due("text", Check.textOf(x), "ba".repeat(12));
        Stemspan y = by(ORDERLY, "dddddddd");
        Check.due("eight by three", y.write(), 24);
        Check.due("text", Check.textOf(y), "bca".repeat(8));
    }

    private static void writeOverFull() {
        String[] texts = {"bbbbbbbbbbbba", "dddddddda", "abbbbbbbbbbbb", "d".repeat(24), "a".repeat(23) + "b"};
        for (String text : texts) {
            Stemspan x = by(ORDERLY, text);
            Check.dueThrow("25 or more, " + text, x, IllegalStateException.class, () -> x.write());
            Check.due("text", Check.textOf(x), text);
        }
    }

    private static void read() {
        Doc.promise(30);
        Doc.row("Makes the text the row that is the text if it is written.",
            CodesEdgesTest::readByFirstCodes,
            CodesEdgesTest::readIsWrittenBack);
        Doc.row("Returns how many signs the text has then.",
            CodesEdgesTest::readNoSigns,
            CodesEdgesTest::readFull);
        Doc.row("Throws `UnsupportedOperationException` if the codes are not orderly",
            CodesEdgesTest::readNotOrderly,
            CodesEdgesTest::readNoSignsNotOrderly,
            CodesEdgesTest::readNotOrderlyComesFirst);
        Doc.row("Throws `NoSuchElementException` if there is no such row",
            CodesEdgesTest::readNoCodeAtTheFirst,
            CodesEdgesTest::readNoCodeAtTheLast,
            CodesEdgesTest::readCodeGoesOnOverTheEnd);
    }

    private static void readByFirstCodes() {
        Stemspan x = Check.withText(FULL);
        Check.due("read", x.read(), 24);
        Check.due("text", Check.textOf(x), FULL);
    }

    private static void readIsWrittenBack() {
        Stemspan x = by(ORDERLY, "fedcba", "b=1");
        x.write();
        Check.due("read", x.read(), 6);
        Check.due("text", Check.textOf(x), "fedcba");
        Check.due("words", Check.wordsOf(x), "b=1");
    }

    private static void readNoSigns() {
        Check.due("first codes", new Stemspan().read(), 0);
        Check.due("other codes", by(ORDERLY, "").read(), 0);
    }

    private static void readFull() {
        Check.due("24 by one", by(ORDERLY, "a".repeat(24)).read(), 24);
        Check.due("24 by two", by(ORDERLY, "ba".repeat(12)).read(), 12);
        Stemspan x = by(ORDERLY, "bca".repeat(7) + "bcc");
        Check.due("24 by three", x.read(), 8);
        Check.due("text", Check.textOf(x), "ddddddde");
    }

    private static void readNotOrderly() {
        Stemspan x = by(NOT_ORDERLY, "a");
        Check.dueThrow("not in order", x, UnsupportedOperationException.class, () -> x.read());
        Stemspan y = by(new String[] {"a", "ab", "c", "d", "e", "f"}, "ab");
        Check.dueThrow("one begins with another one", y, UnsupportedOperationException.class, () -> y.read());
    }

    private static void readNoSignsNotOrderly() {
        Stemspan x = by(NOT_ORDERLY, "");
        Check.dueThrow("no signs", x, UnsupportedOperationException.class, () -> x.read());
    }

    private static void readNotOrderlyComesFirst() {
        Stemspan x = by(new String[] {"b", "b", "b", "b", "b", "b"}, "a");
        Check.dueThrow("no code has an a", x, UnsupportedOperationException.class, () -> x.read());
    }

    private static void readNone(String text) {
        Stemspan x = by(ORDERLY, text);
        Check.dueThrow(text, x, NoSuchElementException.class, () -> x.read());
        Check.due("text", Check.textOf(x), text);
    }

    private static void readNoCodeAtTheFirst() {
        readNone("c");
        readNone("e");
        readNone("ca");
        readNone("bcb");
        readNone("c" + "a".repeat(23));
    }

    private static void readNoCodeAtTheLast() {
        readNone("ac");
        readNone("bae");
        readNone("a".repeat(23) + "c");
    }

    private static void readCodeGoesOnOverTheEnd() {
        readNone("b");
        readNone("bc");
        readNone("fb");
        readNone("fbc");
        readNone("a".repeat(23) + "b");
        readNone("a".repeat(22) + "bc");
    }

    private static void writeAll() {
        Doc.promise(31);
        Doc.row("Writes each word by the codes: what it becomes is the word then, with its number, instead of it; "
            + "the text stays.",
            CodesEdgesTest::writeAllEachWord,
            CodesEdgesTest::writeAllIntoOtherWords,
            CodesEdgesTest::writeAllOfFullList,
            CodesEdgesTest::writeAllLeavesText);
        Doc.row("Returns how many words have more signs than they had.",
            CodesEdgesTest::writeAllOfNone,
            CodesEdgesTest::writeAllNoneGrows,
            CodesEdgesTest::writeAllSomeGrow,
            CodesEdgesTest::writeAllAllGrow,
            CodesEdgesTest::writeAllOnceWordsAreGone);
        Doc.row("Throws `UnsupportedOperationException` if the codes are not orderly",
            CodesEdgesTest::writeAllNotOrderly,
            CodesEdgesTest::writeAllOfNoneNotOrderly,
            CodesEdgesTest::writeAllNotOrderlyComesFirst);
        Doc.row("Throws `IllegalStateException` if a word would have more than 10 signs",
            CodesEdgesTest::writeAllUpToTen,
            CodesEdgesTest::writeAllEleven,
            CodesEdgesTest::writeAllThirty,
            CodesEdgesTest::writeAllOnlyTheLastTooLong);
    }

    private static void writeAllEachWord() {
        Stemspan x = by(ORDERLY, "", "a=0", "ad=1", "b=999", "f=3");
        Check.due("grown", x.writeAll(), 2);
        Check.due("words", Check.wordsOf(x), "a=0 abca=1 ba=999 f=3");
    }

    private static void writeAllIntoOtherWords() {
        // Each word becomes the next one, so that none may be written over one that is still to be read.
        String[] next = {"b", "c", "d", "e", "fa", "fb"};
        Stemspan x = by(next, "", "a=1", "b=2", "c=3", "d=4");
        Check.due("grown", x.writeAll(), 0);
        Check.due("words", Check.wordsOf(x), "b=1 c=2 d=3 e=4");
        Check.due("grown", x.writeAll(), 1);
        Check.due("words", Check.wordsOf(x), "c=1 d=2 e=3 fa=4");
    }

    private static void writeAllOfFullList() {
        Stemspan x = new Stemspan();
        Check.setCodes(x, "aa", "ab", "ac", "ad", "ae", "af");
        Check.fill(x, 24);
        Check.due("grown", x.writeAll(), 24);
        Check.due("words", x.words(), 24);
        Check.due("the first one", x.word(0), 4);
        Check.due("text", Check.textOf(x), "aaaa");
        Check.due("its number", x.number(), 0);
        Check.due("the last one", x.word(23), 4);
        Check.due("text", Check.textOf(x), "adaf");
        Check.due("its number", x.number(), 23);
    }

    private static void writeAllLeavesText() {
        for (String text : new String[] {"", "b", FULL}) {
            Stemspan x = by(ORDERLY, text, "b=1");
            x.writeAll();
            Check.due("text", Check.textOf(x), text);
        }
    }

    private static void writeAllOfNone() {
        Check.due("no words", by(ORDERLY, "bd").writeAll(), 0);
    }

    private static void writeAllNoneGrows() {
        Stemspan x = by(ORDERLY, "", "a=1", "af=2", "aaaaaaaaaa=3");
        Check.due("as many signs each", x.writeAll(), 0);
        Check.due("words", Check.wordsOf(x), "a=1 aaaaaaaaaa=3 af=2");
    }

    private static void writeAllSomeGrow() {
        Check.due("one by one sign", by(ORDERLY, "", "a=1", "ab=2", "f=3").writeAll(), 1);
    }

    private static void writeAllAllGrow() {
        Check.due("all of three", by(ORDERLY, "", "b=1", "cd=2", "fb=3").writeAll(), 3);
    }

    private static void writeAllOnceWordsAreGone() {
        Stemspan x = by(ORDERLY, "", "a=1", "b=2", "d=3");
        Check.due("two of three", x.writeAll(), 2);
        Check.setText(x, "b");
        Check.due("two are gone", x.gone(), 2);
        Check.due("none of one", x.writeAll(), 0);
        Check.setText(x, "a");
        x.take();
        Check.due("none of none", x.writeAll(), 0);
    }

    private static void writeAllNotOrderly() {
        Stemspan x = by(NOT_ORDERLY, "", "a=1", "e=2");
        Check.dueThrow("not in order", x, UnsupportedOperationException.class, () -> x.writeAll());
        Stemspan y = by(new String[] {"a", "b", "c", "d", "e", "ea"}, "", "a=1");
        Check.dueThrow("one begins with another one", y, UnsupportedOperationException.class, () -> y.writeAll());
    }

    private static void writeAllOfNoneNotOrderly() {
        Stemspan x = by(NOT_ORDERLY, "");
        Check.dueThrow("no words", x, UnsupportedOperationException.class, () -> x.writeAll());
    }

    private static void writeAllNotOrderlyComesFirst() {
        Stemspan x = by(new String[] {"fff", "b", "c", "d", "e", "f"}, "", "aaaaaaaaaa=1");
        Check.dueThrow("30 signs", x, UnsupportedOperationException.class, () -> x.writeAll());
    }

    private static void writeAllUpToTen() {
        Stemspan x = by(ORDERLY, "", "bbbbb=1", "dddf=2");
        Check.due("grown", x.writeAll(), 2);
        Check.due("words", Check.wordsOf(x), "bababababa=1 bcabcabcaf=2");
    }

    private static void writeAllEleven() {
        for (String word : new String[] {"bbbbba", "dddb", "aaaaaaaaab"}) {
            Stemspan x = by(ORDERLY, "", word + "=1");
            Check.dueThrow(word, x, IllegalStateException.class, () -> x.writeAll());
            Check.due("words", Check.wordsOf(x), word + "=1");
        }
    }

    private static void writeAllThirty() {
        Stemspan x = by(ORDERLY, "", "dddddddddd=1");
        Check.dueThrow("30 signs", x, IllegalStateException.class, () -> x.writeAll());
    }

    private static void writeAllOnlyTheLastTooLong() {
        Stemspan x = by(ORDERLY, "ab", "b=1", "c=2", "dddd=3");
        Check.dueThrow("the last one", x, IllegalStateException.class, () -> x.writeAll());
        Check.due("words", Check.wordsOf(x), "b=1 c=2 dddd=3");
        Stemspan y = by(ORDERLY, "ab", "bbbbbb=1", "c=2", "d=3");
        Check.dueThrow("the first one", y, IllegalStateException.class, () -> y.writeAll());
        Check.due("words", Check.wordsOf(y), "bbbbbb=1 c=2 d=3");
    }
}
