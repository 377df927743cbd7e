import java.util.NoSuchElementException;

/** The edges that promises 24 to 27 name, row by row: cuts. */
public final class CutsEdgesTest {
    private static final String FULL = "abcdefabcdefabcdefabcdef";
    private static final String A24 = "a".repeat(24);

    public static void main(String[] args) {
        pieces();
        piece();
        cuts();
        fewest();
        Doc.close();
        Check.end();
    }

    private static Stemspan with(String text, String... entries) {
        Stemspan x = new Stemspan();
        Check.putAll(x, entries);
        Check.setText(x, text);
        return x;
    }

    /** The words a, aa, and so on to ten signs, and the text. */
    private static Stemspan allOfA(String text) {
        Stemspan x = new Stemspan();
        for (int size = 1; size <= 10; size++) {
            Check.putAll(x, "a".repeat(size) + "=1");
        }
        Check.setText(x, text);
        return x;
    }

    private static void takeWord(Stemspan x, String word) {
        String text = Check.textOf(x);
        Check.setText(x, word);
        x.take();
        Check.setText(x, text);
    }

    private static void pieces() {
        Doc.promise(24);
        Doc.row("Cuts the text by the longest each time.",
            CutsEdgesTest::piecesLeaveTheText,
            CutsEdgesTest::piecesByTheLongest);
        Doc.row("Returns how many pieces that makes, or, if something is left, -1 less the place in the text from "
            + "which it is left.",
            CutsEdgesTest::piecesOfNoSigns,
            CutsEdgesTest::piecesOneAndTwentyFour,
            CutsEdgesTest::piecesAllIsLeft,
            CutsEdgesTest::piecesOneSignIsLeft,
            CutsEdgesTest::piecesLeftThoughThereIsAWay,
            CutsEdgesTest::piecesOnceAWordIsTaken);
    }

    private static void piecesLeaveTheText() {
        Stemspan x = with("abc", "ab=1");
        long before = x.checksum();
        x.pieces();
        Check.due("checksum", x.checksum(), before);
    }

    private static void piecesByTheLongest() {
        Check.due("not by the shortest", with("aaaa", "a=1", "aaa=2").pieces(), 2);
        Check.due("24 signs by ten", allOfA(A24).pieces(), 3);
    }

    private static void piecesOfNoSigns() {
        Check.due("no words", new Stemspan().pieces(), 0);
        Check.due("a word", with("", "a=1").pieces(), 0);
    }

    private static void piecesOneAndTwentyFour() {
        Check.due("one of one sign", with("a", "a=1").pieces(), 1);
        Check.due("one of ten signs", with("abcdefabcd", "abcdefabcd=1").pieces(), 1);
        Check.due("24", with(A24, "a=1").pieces(), 24);
    }

    private static void piecesAllIsLeft() {
        Check.due("no words", Check.withText("a").pieces(), -1);
        Check.due("24 signs, no words", Check.withText(FULL).pieces(), -1);
        Check.due("words stand at later places only", with("fab", "ab=1").pieces(), -1);
        Check.due("a word that goes on over the end", with("ab", "abc=1").pieces(), -1);
    }

    private static void piecesOneSignIsLeft() {
        Check.due("the second one", with("ab", "a=1").pieces(), -2);
        Check.due("the 24th one", with("a".repeat(23) + "b", "a=1").pieces(), -24);
    }

    private static void piecesLeftThoughThereIsAWay() {
        Check.due("ab, then c is left", with("abc", "a=1", "ab=2", "bc=3").pieces(), -3);
    }

    private static void piecesOnceAWordIsTaken() {
        Stemspan x = with("abab", "a=1", "ab=2");
        Check.due("before", x.pieces(), 2);
        takeWord(x, "ab");
        Check.due("after", x.pieces(), -2);
        takeWord(x, "a");
        Check.due("after both", x.pieces(), -1);
    }

    private static void piece() {
        Doc.promise(25);
        Doc.row("Returns how many signs a piece has as the text is cut by the longest each time, also if something "
            + "is left behind.",
            CutsEdgesTest::pieceCutWholly,
            CutsEdgesTest::pieceSomethingIsLeft);
        Doc.row("- `index`: which piece, from 0", CutsEdgesTest::pieceFirstAndLast);
        Doc.row("Returns how many.", CutsEdgesTest::pieceOneAndTen);
        Doc.row("Throws `NoSuchElementException` if there is no such piece",
            CutsEdgesTest::pieceTooSmall,
            CutsEdgesTest::pieceTooLarge,
            CutsEdgesTest::pieceTooLargeAndSomethingIsLeft,
            CutsEdgesTest::pieceOfNoSigns,
            CutsEdgesTest::pieceAllIsLeft,
            CutsEdgesTest::pieceOnceAWordIsTaken);
    }

    private static void pieceCutWholly() {
        Stemspan x = with("abaab", "a=1", "ab=2");
        Check.due("first", x.piece(0), 2);
        Check.due("second", x.piece(1), 1);
        Check.due("third", x.piece(2), 2);
        Check.due("text", Check.textOf(x), "abaab");
    }

    private static void pieceSomethingIsLeft() {
        Stemspan x = with("abaf", "a=1", "ab=2");
        Check.due("first", x.piece(0), 2);
        Check.due("second", x.piece(1), 1);
    }

    private static void pieceFirstAndLast() {
        Stemspan x = with(A24, "a=1");
        Check.due("piece 0", x.piece(0), 1);
        Check.due("piece 23", x.piece(23), 1);
    }

    private static void pieceOneAndTen() {
        Stemspan x = allOfA("a".repeat(21));
        Check.due("ten", x.piece(0), 10);
        Check.due("ten again", x.piece(1), 10);
        Check.due("one", x.piece(2), 1);
    }

    private static void pieceTooSmall() {
        Stemspan x = with("aa", "a=1");
        for (int index : new int[] {-1, -2, Integer.MIN_VALUE}) {
            Check.dueThrow("index " + index, x, NoSuchElementException.class, () -> x.piece(index));
        }
    }

    private static void pieceTooLarge() {
        Stemspan x = with("abab", "ab=1");
        for (int index : new int[] {2, 3, 4, 24, Integer.MAX_VALUE}) {
            Check.dueThrow("index " + index + " of 2", x, NoSuchElementException.class, () -> x.piece(index));
        }
        Stemspan full = with(A24, "a=1");
        Check.dueThrow("index 24 of 24", full, NoSuchElementException.class, () -> full.piece(24));
        Check.dueThrow("index 25 of 24", full, NoSuchElementException.class, () -> full.piece(25));
    }

    private static void pieceTooLargeAndSomethingIsLeft() {
        // What is left has a word in it, but begins with none.
        Stemspan x = with("abfab", "ab=1");
        for (int index : new int[] {1, 2, 4, 5, Integer.MAX_VALUE}) {
            Check.dueThrow("index " + index + " of 1", x, NoSuchElementException.class, () -> x.piece(index));
        }
    }

    private static void pieceOfNoSigns() {
        Stemspan x = with("", "a=1");
        Check.dueThrow("index 0", x, NoSuchElementException.class, () -> x.piece(0));
    }

    private static void pieceAllIsLeft() {
        Stemspan x = with("fa", "a=1");
        Check.dueThrow("index 0", x, NoSuchElementException.class, () -> x.piece(0));
        Stemspan y = Check.withText(FULL);
        Check.dueThrow("index 0, no words", y, NoSuchElementException.class, () -> y.piece(0));
    }

    private static void pieceOnceAWordIsTaken() {
        Stemspan x = with("abab", "a=1", "ab=2");
        Check.due("before", x.piece(1), 2);
        takeWord(x, "ab");
        Check.due("after", x.piece(0), 1);
        Check.dueThrow("index 1 after", x, NoSuchElementException.class, () -> x.piece(1));
    }

    private static void cuts() {
        Doc.promise(26);
        Doc.row("Returns in how many ways the text can be cut.",
            CutsEdgesTest::cutsOfNoSigns,
            CutsEdgesTest::cutsNone,
            CutsEdgesTest::cutsOne,
            CutsEdgesTest::cutsOnceAWordIsTaken,
            CutsEdgesTest::cutsUpToTheEndOnly);
        Doc.row("Returns how many.", CutsEdgesTest::cutsOfTenAndEleven, CutsEdgesTest::cutsMost);
    }

    private static void cutsOfNoSigns() {
        Check.due("no words", new Stemspan().cuts(), 1);
        Check.due("a word", with("", "a=1").cuts(), 1);
    }

    private static void cutsNone() {
        Check.due("no words", Check.withText("a").cuts(), 0);
        Check.due("nothing fits", with("b", "a=1").cuts(), 0);
        Check.due("the last sign is left", with("a".repeat(23) + "b", "a=1", "aa=2").cuts(), 0);
        Check.due("the first sign is left", with("b" + "a".repeat(23), "a=1", "aa=2").cuts(), 0);
    }

    private static void cutsOne() {
        Check.due("one sign", with("a", "a=1").cuts(), 1);
        Check.due("24 signs by the same word", with(A24, "a=1").cuts(), 1);
        Check.due("not by the longest", with("abc", "a=1", "ab=2", "bc=3").cuts(), 1);
    }

    private static void cutsOnceAWordIsTaken() {
        Stemspan x = with("aaa", "a=1", "aa=2", "aaa=3");
        Check.due("before", x.cuts(), 4);
        takeWord(x, "aaa");
        Check.due("after", x.cuts(), 3);
        takeWord(x, "a");
        Check.due("after two", x.cuts(), 0);
    }

    private static void cutsUpToTheEndOnly() {
        Check.due("a word that goes on over the end", with("aa", "a=1", "aaa=2").cuts(), 1);
        Check.due("two ways up to the end", with("aaa", "a=1", "aaa=2").cuts(), 2);
    }

    private static void cutsOfTenAndEleven() {
        Check.due("ten signs", allOfA("a".repeat(10)).cuts(), 512);
        Check.due("eleven signs, but by no word of eleven", allOfA("a".repeat(11)).cuts(), 1023);
    }

    private static void cutsMost() {
        Stemspan x = allOfA(A24);
        Check.due("24 signs", x.cuts(), 8327186);
        Check.due("text", Check.textOf(x), A24);
    }

    private static void fewest() {
        Doc.promise(27);
        Doc.row("Returns how many pieces those ways to cut the text have that have the fewest.",
            CutsEdgesTest::fewestOfNoSigns,
            CutsEdgesTest::fewestOneAndTwentyFour,
            CutsEdgesTest::fewestNotByTheLongest);
        Doc.row("Returns how many, -1 if there is no way.",
            CutsEdgesTest::fewestNoWay,
            CutsEdgesTest::fewestOnceAWordIsTaken);
    }

    private static void fewestOfNoSigns() {
        Check.due("no words", new Stemspan().fewest(), 0);
        Check.due("a word", with("", "a=1").fewest(), 0);
    }

    private static void fewestOneAndTwentyFour() {
        Check.due("one of one sign", with("a", "a=1").fewest(), 1);
        Check.due("one of ten signs", allOfA("a".repeat(10)).fewest(), 1);
        Check.due("two, as no word has eleven", allOfA("a".repeat(11)).fewest(), 2);
        Check.due("three", allOfA(A24).fewest(), 3);
        Check.due("24", with(A24, "a=1").fewest(), 24);
    }

    private static void fewestNotByTheLongest() {
        Check.due("the longest leaves something", with("abc", "a=1", "ab=2", "bc=3").fewest(), 2);
        Check.due("the longest makes more", with("abcde", "ab=1", "cde=2", "abc=3", "d=4", "e=5").fewest(), 2);
    }

    private static void fewestNoWay() {
        Check.due("no words", Check.withText("a").fewest(), -1);
        Check.due("nothing fits", with("b", "a=1").fewest(), -1);
        Check.due("the last sign is left", with("a".repeat(23) + "b", "a=1").fewest(), -1);
        Check.due("the first sign is left", with("b" + "a".repeat(23), "a=1").fewest(), -1);
        Check.due("a word that goes on over the end", with("aa", "aaa=2").fewest(), -1);
    }

    private static void fewestOnceAWordIsTaken() {
        Stemspan x = with("aaa", "a=1", "aa=2", "aaa=3");
        Check.due("before", x.fewest(), 1);
        takeWord(x, "aaa");
        Check.due("after", x.fewest(), 2);
        takeWord(x, "a");
        Check.due("after two", x.fewest(), -1);
    }
}
