import java.util.NoSuchElementException;

/** The edges that promises 17 to 23 name, row by row: beginnings. */
public final class BeginningsEdgesTest {
    private static final String FULL = "abcdefabcdefabcdefabcdef";
    private static final int LEAST = Integer.MIN_VALUE;
    private static final int GREATEST = Integer.MAX_VALUE;

    public static void main(String[] args) {
        begun();
        begunAt();
        sum();
        gone();
        longest();
        shared();
        twin();
        Doc.close();
        Check.end();
    }

    private static Stemspan fullList() {
        Stemspan x = new Stemspan();
        Check.fill(x, 24);
        return x;
    }

    private static Stemspan with(String text, String... entries) {
        Stemspan x = new Stemspan();
        Check.putAll(x, entries);
        Check.setText(x, text);
        return x;
    }

    private static void begun() {
        Doc.promise(17);
        Doc.row("Returns how many words begin with the text.",
            BeginningsEdgesTest::begunOfNoSigns,
            BeginningsEdgesTest::begunOfWord,
            BeginningsEdgesTest::begunOfFirstAndLast,
            BeginningsEdgesTest::begunOfLonger);
        Doc.row("Returns how many.", BeginningsEdgesTest::begunNone, BeginningsEdgesTest::begunAll);
    }

    private static void begunOfNoSigns() {
        Check.due("one word", with("", "f=1").begun(), 1);
        Check.due("three words", with("", "a=1", "cab=2", "f=3").begun(), 3);
    }

    private static void begunOfWord() {
        Check.due("the word itself", with("ab", "ab=1").begun(), 1);
        Check.due("and longer ones", with("ab", "a=1", "ab=2", "aba=3", "abf=4", "ac=5").begun(), 3);
        Check.due("of ten signs", with("abcdefabcd", "abcdefabcd=1", "abcdefabc=2").begun(), 1);
    }

    private static void begunOfFirstAndLast() {
        Stemspan x = fullList();
        Check.setText(x, "a");
        Check.due("the first six", x.begun(), 6);
        Check.setText(x, "d");
        Check.due("the last six", x.begun(), 6);
        Check.setText(x, "aa");
        Check.due("the first one", x.begun(), 1);
        Check.setText(x, "df");
        Check.due("the last one", x.begun(), 1);
    }

    private static void begunOfLonger() {
        Check.due("one sign longer", with("abc", "ab=1").begun(), 0);
        Check.due("of 11 signs", with("abcdefabcde", "abcdefabcd=1").begun(), 0);
        Check.due("of 24 signs", with(FULL, "abcdefabcd=1").begun(), 0);
    }

    private static void begunNone() {
        Check.due("no signs, no words", new Stemspan().begun(), 0);
        Check.due("a sign, no words", Check.withText("a").begun(), 0);
        Check.due("less than all", with("a", "b=1").begun(), 0);
        Check.due("greater than all", with("c", "b=1").begun(), 0);
    }

    private static void begunAll() {
        Check.due("24", fullList().begun(), 24);
    }

    private static void begunAt() {
        Doc.promise(18);
        Doc.row("Makes the text a word that begins with it.",
            BeginningsEdgesTest::begunAtItself,
            BeginningsEdgesTest::begunAtOfNoSigns);
        Doc.row("- `index`: which one of these, by their order, from 0", BeginningsEdgesTest::begunAtFirstAndLast);
        Doc.row("Returns the number of that word.", BeginningsEdgesTest::begunAtAnswersLeastAndGreatest);
        Doc.row("Throws `NoSuchElementException` if there is no such one",
            BeginningsEdgesTest::begunAtTooSmall,
            BeginningsEdgesTest::begunAtTooLarge,
            BeginningsEdgesTest::begunAtAmongNone);
    }

    private static void begunAtItself() {
        Stemspan x = with("ab", "a=1", "ab=2", "aba=3");
        Check.due("the word itself", x.begunAt(0), 2);
        Check.due("text", Check.textOf(x), "ab");
    }

    private static void begunAtOfNoSigns() {
        Stemspan x = fullList();
        for (int index = 0; index < 24; index++) {
            Check.setText(x, "");
            Check.due("index " + index, x.begunAt(index), index);
            Check.due("text", Check.textOf(x), "" + (char) ('a' + index / 6) + (char) ('a' + index % 6));
        }
    }

    private static void begunAtFirstAndLast() {
        Stemspan x = with("b", "a=1", "ba=2", "bac=3", "bf=4", "c=5");
        Check.due("the first one", x.begunAt(0), 2);
        Check.due("text", Check.textOf(x), "ba");
        Check.setText(x, "b");
        Check.due("the last one", x.begunAt(2), 4);
        Check.due("text", Check.textOf(x), "bf");
        Check.due("words", Check.wordsOf(x), "a=1 ba=2 bac=3 bf=4 c=5");
    }

    private static void begunAtAnswersLeastAndGreatest() {
        Stemspan x = with("a", "ab=0", "ac=999");
        Check.due("greatest number", x.begunAt(1), 999);
        Check.setText(x, "a");
        Check.due("least number", x.begunAt(0), 0);
    }

    private static void begunAtTooSmall() {
        Stemspan x = with("b", "a=1", "ba=2", "bf=3");
        for (int index : new int[] {-1, -2, LEAST}) {
            Check.dueThrow("index " + index, x, NoSuchElementException.class, () -> x.begunAt(index));
        }
    }

    private static void begunAtTooLarge() {
        Stemspan x = with("b", "a=1", "ba=2", "bf=3", "c=4", "d=5");
        for (int index : new int[] {2, 3, 4, GREATEST}) {
            Check.dueThrow("index " + index + " of 2", x, NoSuchElementException.class, () -> x.begunAt(index));
        }
        Stemspan full = fullList();
        Check.dueThrow("index 24 of 24", full, NoSuchElementException.class, () -> full.begunAt(24));
    }

    private static void begunAtAmongNone() {
        Stemspan x = new Stemspan();
        Check.dueThrow("no words", x, NoSuchElementException.class, () -> x.begunAt(0));
        Stemspan y = with("c", "b=1", "d=2");
        Check.dueThrow("no word begins so", y, NoSuchElementException.class, () -> y.begunAt(0));
        Stemspan z = with(FULL, "abcdefabcd=1");
        Check.dueThrow("24 signs", z, NoSuchElementException.class, () -> z.begunAt(0));
    }

    private static void sum() {
        Doc.promise(19);
        Doc.row("Returns the sum of the numbers of all words that begin with the text.",
            BeginningsEdgesTest::sumOfNoSigns,
            BeginningsEdgesTest::sumOfWord,
            BeginningsEdgesTest::sumOfNone);
        Doc.row("Returns the sum.", BeginningsEdgesTest::sumLeast, BeginningsEdgesTest::sumGreatest);
    }

    private static void sumOfNoSigns() {
        Check.due("all words", with("", "a=1", "cab=20", "f=300").sum(), 321);
    }

    private static void sumOfWord() {
        Check.due("the word itself", with("ab", "ab=7").sum(), 7);
        Check.due("and longer ones", with("ab", "a=1", "ab=20", "abf=300", "ac=4").sum(), 320);
    }

    private static void sumOfNone() {
        Check.due("no signs, no words", new Stemspan().sum(), 0);
        Check.due("no word begins so", with("c", "b=1", "d=2").sum(), 0);
        Check.due("one sign longer", with("abc", "ab=1").sum(), 0);
        Check.due("24 signs", with(FULL, "abcdefabcd=1").sum(), 0);
    }

    private static void sumLeast() {
        Check.due("numbers of 0", with("a", "a=0", "ab=0", "b=5").sum(), 0);
    }

    private static void sumGreatest() {
        Stemspan x = fullList();
        for (int rank = 0; rank < 24; rank++) {
            x.word(rank);
            x.put(999);
        }
        x.wipe();
        Check.due("24 numbers of 999", x.sum(), 23976);
        x.type('d');
        Check.due("the last six", x.sum(), 5994);
    }

    private static void gone() {
        Doc.promise(20);
        Doc.row("Takes all words that begin with the text away; the text stays.",
            BeginningsEdgesTest::goneOfNoSigns,
            BeginningsEdgesTest::goneOfWord,
            BeginningsEdgesTest::goneOfFirstAndLast,
            BeginningsEdgesTest::goneLeavesRoom);
        Doc.row("Returns how many these were.", BeginningsEdgesTest::goneNone, BeginningsEdgesTest::goneAll);
    }

    private static void goneOfNoSigns() {
        Stemspan x = with("", "a=1", "cab=2", "f=3");
        Check.due("all words", x.gone(), 3);
        Check.due("words", x.words(), 0);
        Check.due("text", Check.textOf(x), "");
    }

    private static void goneOfWord() {
        Stemspan x = with("ab", "a=1", "aa=2", "ab=3", "aba=4", "ac=5");
        Check.due("the word itself and a longer one", x.gone(), 2);
        Check.due("words", Check.wordsOf(x), "a=1 aa=2 ac=5");
        Check.due("text", Check.textOf(x), "ab");
    }

    private static void goneOfFirstAndLast() {
        Stemspan x = fullList();
        Check.setText(x, "a");
        Check.due("the first six", x.gone(), 6);
        Check.setText(x, "d");
        Check.due("the last six", x.gone(), 6);
        Check.due("words", Check.wordsOf(x), "ba=6 bb=7 bc=8 bd=9 be=10 bf=11 ca=12 cb=13 cc=14 cd=15 ce=16 cf=17");
    }

    private static void goneLeavesRoom() {
        Stemspan x = fullList();
        Check.due("24", x.gone(), 24);
        Check.fill(x, 24);
        Check.due("24 anew", x.words(), 24);
        Check.due("the last one's number", x.begunAt(23), 23);
    }

    private static void goneNone() {
        Check.due("no signs, no words", new Stemspan().gone(), 0);
        for (String text : new String[] {"a", "bca", "c", FULL}) {
            Stemspan x = with(text, "b=1", "bc=2");
            Check.due(text, x.gone(), 0);
            Check.due("words", Check.wordsOf(x), "b=1 bc=2");
            Check.due("text", Check.textOf(x), text);
        }
    }

    private static void goneAll() {
        Stemspan x = fullList();
        Check.due("24", x.gone(), 24);
        Check.due("none is left", x.gone(), 0);
    }

    private static void longest() {
        Doc.promise(21);
        Doc.row("Returns how many signs the longest word has with which the row begins that stands in the text from "
            + "a place on.",
            BeginningsEdgesTest::longestOfSome,
            BeginningsEdgesTest::longestUpToTheEnd,
            BeginningsEdgesTest::longestOverTheEnd);
        Doc.row("- `place`: 0 to how many signs the text has",
            BeginningsEdgesTest::longestAtFirstAndLast,
            BeginningsEdgesTest::longestBehindAll);
        Doc.row("Returns how many, 0 if it begins with no word.",
            BeginningsEdgesTest::longestNone,
            BeginningsEdgesTest::longestOneAndTen);
        Doc.row("Throws `IndexOutOfBoundsException` if the place is out of range",
            BeginningsEdgesTest::longestPlaceTooSmall,
            BeginningsEdgesTest::longestPlaceTooLarge);
    }

    private static void longestOfSome() {
        Stemspan x = with("abcf", "a=1", "ab=2", "abc=3", "abd=4", "b=5");
        Check.due("the longest of three", x.longest(0), 3);
        Check.due("text", Check.textOf(x), "abcf");
        Check.due("the one before in the order does not stand there", with("abef", "a=1", "abd=2").longest(0), 1);
    }

    private static void longestUpToTheEnd() {
        Check.due("the row is a word", with("ab", "a=1", "ab=2").longest(0), 2);
        Check.due("the row from a place on is a word", with("fab", "a=1", "ab=2").longest(1), 2);
    }

    private static void longestOverTheEnd() {
        Check.due("a word that goes on", with("ab", "a=1", "abc=2").longest(0), 1);
        Check.due("only such a one", with("fab", "abc=2").longest(1), 0);
    }

    private static void longestAtFirstAndLast() {
        Stemspan x = with("ab" + "c".repeat(20) + "ba", "a=1", "ab=2");
        Check.due("place 0", x.longest(0), 2);
        Check.due("place 23", x.longest(23), 1);
    }

    private static void longestBehindAll() {
        Check.due("behind none", with("", "a=1").longest(0), 0);
        Check.due("behind one", with("a", "a=1").longest(1), 0);
        Check.due("behind 24", with("a".repeat(24), "a=1").longest(24), 0);
    }

    private static void longestNone() {
        Check.due("no words", Check.withText("a").longest(0), 0);
        Check.due("less than all", with("a", "b=1").longest(0), 0);
        Check.due("greater than all", with("c", "b=1", "ca=2").longest(0), 0);
    }

    private static void longestOneAndTen() {
        Check.due("one", with(FULL, "a=1").longest(0), 1);
        Check.due("ten", with(FULL, "abcdefabcd=1", "a=1").longest(0), 10);
    }

    private static void longestPlaceTooSmall() {
        Stemspan x = with("abc", "a=1");
        Stemspan none = new Stemspan();
        for (int place : new int[] {-1, -2, LEAST}) {
            Check.dueThrow("place " + place, x, IndexOutOfBoundsException.class, () -> x.longest(place));
            Check.dueThrow("place " + place, none, IndexOutOfBoundsException.class, () -> none.longest(place));
        }
    }

    private static void longestPlaceTooLarge() {
        Stemspan x = with("abc", "a=1");
        for (int place : new int[] {4, 5, 24, GREATEST}) {
            Check.dueThrow("place " + place + " of 3", x, IndexOutOfBoundsException.class, () -> x.longest(place));
        }
        Stemspan none = new Stemspan();
        Check.dueThrow("place 1 of none", none, IndexOutOfBoundsException.class, () -> none.longest(1));
        Stemspan full = Check.withText(FULL);
        Check.dueThrow("place 25 of 24", full, IndexOutOfBoundsException.class, () -> full.longest(25));
    }

    private static void shared() {
        Doc.promise(22);
        Doc.row("Returns how many signs the text has in common with some word at most.",
            BeginningsEdgesTest::sharedWithLessAndGreater,
            BeginningsEdgesTest::sharedOfWord,
            BeginningsEdgesTest::sharedOfShorterAndLonger,
            BeginningsEdgesTest::sharedNothing);
        Doc.row("Returns how many, 0 if there are no words.", BeginningsEdgesTest::sharedAmongNone);
    }

    private static void sharedWithLessAndGreater() {
        Check.due("most with a lesser one", with("abd", "abc=1", "ae=2").shared(), 2);
        Check.due("most with a greater one", with("abd", "aa=1", "abe=2").shared(), 2);
        Check.due("most with the first of 24", sharedAmong24("aab"), 2);
        Check.due("most with the last of 24", sharedAmong24("dff"), 2);
    }

    private static int sharedAmong24(String text) {
        Stemspan x = fullList();
        Check.setText(x, text);
        return x.shared();
    }

    private static void sharedOfWord() {
        Check.due("one sign", with("a", "a=1").shared(), 1);
        Stemspan x = with("abcdefabcd", "abcdefabcd=1");
        Check.due("ten signs", x.shared(), 10);
        Check.due("text", Check.textOf(x), "abcdefabcd");
    }

    private static void sharedOfShorterAndLonger() {
        Check.due("a word begins with the text", with("abc", "abcd=1").shared(), 3);
        Check.due("the text begins with a word", with("abcd", "abc=1").shared(), 3);
        Check.due("ten of 24 signs", with(FULL, "abcdefabcd=1").shared(), 10);
    }

    private static void sharedNothing() {
        Check.due("no signs", with("", "a=1").shared(), 0);
        Check.due("less than all", with("a", "b=1", "c=2").shared(), 0);
        Check.due("greater than all", with("f", "b=1", "c=2").shared(), 0);
        Check.due("the same signs at other places only", with("ab", "bab=1").shared(), 0);
        Check.due("signs behind the first unlike one", with("abc", "dbc=1").shared(), 0);
    }

    private static void sharedAmongNone() {
        Check.due("no signs", new Stemspan().shared(), 0);
        Check.due("24 signs", Check.withText(FULL).shared(), 0);
        Stemspan x = with("ab", "ab=1");
        x.take();
        Check.due("once the only one is taken", x.shared(), 0);
    }

    private static void twin() {
        Doc.promise(23);
        Doc.row("Returns how many signs two of the words have in common at most.",
            BeginningsEdgesTest::twinOfTwo,
            BeginningsEdgesTest::twinOfFirstAndLast,
            BeginningsEdgesTest::twinOfFull);
        Doc.row("Returns how many.", BeginningsEdgesTest::twinNothing, BeginningsEdgesTest::twinNine);
        Doc.row("Throws `NoSuchElementException` if there are fewer than two words",
            BeginningsEdgesTest::twinOfNone,
            BeginningsEdgesTest::twinOfOne,
            BeginningsEdgesTest::twinOnceOneIsTaken);
    }

    private static void twinOfTwo() {
        Check.due("unlike behind two", with("f", "abc=1", "abd=2").twin(), 2);
        Check.due("the one begins with the other", with("f", "abc=1", "ab=2").twin(), 2);
    }

    private static void twinOfFirstAndLast() {
        Check.due("the first two", with("", "aab=1", "aac=2", "b=3", "c=4").twin(), 2);
        Check.due("the last two", with("", "a=1", "b=2", "ccb=3", "ccc=4").twin(), 2);
    }

    private static void twinOfFull() {
        Stemspan x = fullList();
        Check.due("24 words", x.twin(), 1);
        Check.due("words", x.words(), 24);
    }

    private static void twinNothing() {
        Check.due("nothing in common", with("", "a=1", "b=2").twin(), 0);
        Check.due("the same signs at other places only", with("", "ab=1", "bab=2").twin(), 0);
    }

    private static void twinNine() {
        Check.due("unlike at the last of ten", with("", "abcdefabca=1", "abcdefabcb=2").twin(), 9);
        Check.due("nine of ten", with("", "abcdefabc=1", "abcdefabcf=2").twin(), 9);
    }

    private static void twinOfNone() {
        Stemspan x = Check.withText("ab");
        Check.dueThrow("no words", x, NoSuchElementException.class, () -> x.twin());
    }

    private static void twinOfOne() {
        Stemspan x = with("ab", "ab=1");
        Check.dueThrow("one word", x, NoSuchElementException.class, () -> x.twin());
    }

    private static void twinOnceOneIsTaken() {
        Stemspan x = with("ab", "ab=1", "abc=2");
        Check.due("two words", x.twin(), 2);
        x.take();
        Check.dueThrow("one word is left", x, NoSuchElementException.class, () -> x.twin());
    }
}
