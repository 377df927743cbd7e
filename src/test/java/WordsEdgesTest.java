import java.util.NoSuchElementException;

/** The edges that promises 10 to 16 name, row by row: words. */
public final class WordsEdgesTest {
    private static final String FULL = "abcdefabcdefabcdefabcdef";
    private static final int LEAST = Integer.MIN_VALUE;
    private static final int GREATEST = Integer.MAX_VALUE;
    private static final int[] NO_NUMBERS = {-1, -2, -999, LEAST, 1000, 1001, 65536, GREATEST};

    public static void main(String[] args) {
        put();
        take();
        number();
        words();
        rank();
        word();
        near();
        Doc.close();
        Check.end();
    }

    private static Stemspan fullList() {
        Stemspan x = new Stemspan();
        Check.fill(x, 24);
        return x;
    }

    private static void put() {
        Doc.promise(10);
        Doc.row("Makes the text a word, or gives it another number if it is one; the text stays.",
            WordsEdgesTest::putFirstAndLastInOrder,
            WordsEdgesTest::putAnotherNumber,
            WordsEdgesTest::putLeavesText);
        Doc.row("- `number`: its number then", WordsEdgesTest::putLeastAndGreatestNumber);
        Doc.row("Returns the number that it had, -1 if it was no word.",
            WordsEdgesTest::putAnswersNoWord,
            WordsEdgesTest::putAnswersNumber,
            WordsEdgesTest::putAnswersNoWordOnceTaken);
        Doc.row("Throws `IllegalArgumentException` if the number is out of range",
            WordsEdgesTest::putNumberOutOfRange,
            WordsEdgesTest::putNumberOutOfRangeForWord,
            WordsEdgesTest::putNumberOutOfRangeComesFirst);
        Doc.row("Throws `UnsupportedOperationException` if the text has no signs, or more than 10",
            WordsEdgesTest::putNoSigns,
            WordsEdgesTest::putOneAndTenSigns,
            WordsEdgesTest::putMoreThanTenSigns,
            WordsEdgesTest::putNoWordIntoFullList);
        Doc.row("Throws `IllegalStateException` if it is no word, and there are 24",
            WordsEdgesTest::putThe24thWord,
            WordsEdgesTest::putThe25thWord,
            WordsEdgesTest::putWordAgainIntoFullList);
    }

    private static void putFirstAndLastInOrder() {
        Stemspan x = new Stemspan();
        Check.putAll(x, "c=3", "a=1", "f=6", "b=2");
        Check.due("words", Check.wordsOf(x), "a=1 b=2 c=3 f=6");
    }

    private static void putAnotherNumber() {
        Stemspan x = Check.withText("ab");
        x.put(5);
        x.put(6);
        Check.due("words", Check.wordsOf(x), "ab=6");
        x.put(6);
        Check.due("words, the same number again", Check.wordsOf(x), "ab=6");
    }

    private static void putLeavesText() {
        Stemspan x = Check.withText("ab");
        x.put(5);
        Check.due("text of a new word", Check.textOf(x), "ab");
        x.put(6);
        Check.due("text of a word", Check.textOf(x), "ab");
    }

    private static void putLeastAndGreatestNumber() {
        Stemspan x = Check.withText("ab");
        x.put(0);
        Check.due("least number", x.number(), 0);
        x.put(999);
        Check.due("greatest number", x.number(), 999);
    }

    private static void putAnswersNoWord() {
        Stemspan x = Check.withText("ab");
        Check.due("among none", x.put(5), -1);
        Check.setText(x, "a");
        Check.due("what a word begins with", x.put(5), -1);
        Check.setText(x, "abc");
        Check.due("what begins with a word", x.put(5), -1);
    }

    private static void putAnswersNumber() {
        Stemspan x = Check.withText("ab");
        x.put(0);
        Check.due("the least one", x.put(999), 0);
        Check.due("the greatest one", x.put(1), 999);
        Check.due("the one put again", x.put(1), 1);
    }

    private static void putAnswersNoWordOnceTaken() {
        Stemspan x = Check.withText("ab");
        x.put(7);
        x.take();
        Check.due("taken", x.put(8), -1);
        x.gone();
        Check.due("gone", x.put(9), -1);
    }

    private static void putNumberOutOfRange() {
        Stemspan x = Check.withText("ab");
        for (int number : NO_NUMBERS) {
            Check.dueThrow("number " + number, x, IllegalArgumentException.class, () -> x.put(number));
        }
    }

    private static void putNumberOutOfRangeForWord() {
        Stemspan x = Check.withText("ab");
        x.put(5);
        for (int number : NO_NUMBERS) {
            Check.dueThrow("number " + number, x, IllegalArgumentException.class, () -> x.put(number));
        }
        Check.due("number as it was", x.number(), 5);
    }

    private static void putNumberOutOfRangeComesFirst() {
        Stemspan x = fullList();
        for (String text : new String[] {"", "abcdefabcde", "fa"}) {
            Check.setText(x, text);
            Check.dueThrow("-1 for " + text, x, IllegalArgumentException.class, () -> x.put(-1));
            Check.dueThrow("1000 for " + text, x, IllegalArgumentException.class, () -> x.put(1000));
        }
    }

    private static void putNoSigns() {
        Stemspan x = new Stemspan();
        Check.dueThrow("0 for no signs", x, UnsupportedOperationException.class, () -> x.put(0));
        Check.dueThrow("999 for no signs", x, UnsupportedOperationException.class, () -> x.put(999));
    }

    private static void putOneAndTenSigns() {
        for (int size = 1; size <= 10; size++) {
            Stemspan x = Check.withText(FULL.substring(0, size));
            Check.due(size + " signs", x.put(4), -1);
            Check.due("words", Check.wordsOf(x), FULL.substring(0, size) + "=4");
        }
    }

    private static void putMoreThanTenSigns() {
        for (int size = 11; size <= 24; size++) {
            Stemspan x = Check.withText(FULL.substring(0, size));
            Check.dueThrow(size + " signs", x, UnsupportedOperationException.class, () -> x.put(4));
        }
    }

    private static void putNoWordIntoFullList() {
        Stemspan x = fullList();
        Check.dueThrow("no signs", x, UnsupportedOperationException.class, () -> x.put(4));
        Check.setText(x, "abcdefabcde");
        Check.dueThrow("eleven signs", x, UnsupportedOperationException.class, () -> x.put(4));
    }

    private static void putThe24thWord() {
        Stemspan x = new Stemspan();
        Check.fill(x, 23);
        Check.setText(x, "f");
        Check.due("the 24th", x.put(4), -1);
        Check.due("words", x.words(), 24);
    }

    private static void putThe25thWord() {
        Stemspan x = fullList();
        for (String text : new String[] {"a", "ab".repeat(5), "bbb", "f"}) {
            Check.setText(x, text);
            Check.dueThrow("the 25th, " + text, x, IllegalStateException.class, () -> x.put(4));
        }
        Check.setText(x, "aa");
        x.take();
        Check.setText(x, "f");
        Check.due("once there is room", x.put(4), -1);
        Check.setText(x, "aa");
        Check.dueThrow("once there is none again", x, IllegalStateException.class, () -> x.put(4));
    }

    private static void putWordAgainIntoFullList() {
        Stemspan x = fullList();
        Check.setText(x, "aa");
        Check.due("the first one", x.put(500), 0);
        Check.due("its number", x.number(), 500);
        Check.setText(x, "df");
        Check.due("the last one", x.put(501), 23);
        Check.due("its number", x.number(), 501);
        Check.due("words", x.words(), 24);
    }

    private static void take() {
        Doc.promise(11);
        Doc.row("Takes the text out of the words; the text stays.",
            WordsEdgesTest::takeTheOnlyOne,
            WordsEdgesTest::takeFirstAndLast,
            WordsEdgesTest::takeFromFullList,
            WordsEdgesTest::takeThenPutOthers);
        Doc.row("Returns the number that it had.", WordsEdgesTest::takeAnswersLeastAndGreatest);
        Doc.row("Throws `NoSuchElementException` if it is no word",
            WordsEdgesTest::takeAmongNone,
            WordsEdgesTest::takeTwice,
            WordsEdgesTest::takeNoWord);
    }

    private static void takeTheOnlyOne() {
        Stemspan x = Check.withText("ab");
        x.put(5);
        x.take();
        Check.due("words", x.words(), 0);
        Check.due("text", Check.textOf(x), "ab");
    }

    private static void takeFirstAndLast() {
        Stemspan x = new Stemspan();
        Check.putAll(x, "a=1", "b=2", "c=3");
        Check.setText(x, "c");
        x.take();
        Check.due("words", Check.wordsOf(x), "a=1 b=2");
        Check.setText(x, "a");
        x.take();
        Check.due("words", Check.wordsOf(x), "b=2");
    }

    private static void takeFromFullList() {
        Stemspan x = fullList();
        Check.setText(x, "df");
        Check.due("the last one", x.take(), 23);
        Check.setText(x, "aa");
        Check.due("the first one", x.take(), 0);
        Check.due("words", x.words(), 22);
    }

    private static void takeThenPutOthers() {
        Stemspan x = new Stemspan();
        Check.putAll(x, "a=1", "b=2", "c=3");
        Check.setText(x, "a");
        x.take();
        Check.putAll(x, "d=4");
        Check.due("put behind all", Check.wordsOf(x), "b=2 c=3 d=4");
        Check.setText(x, "c");
        x.take();
        Check.putAll(x, "a=5");
        Check.due("put ahead of all", Check.wordsOf(x), "a=5 b=2 d=4");
    }

    private static void takeAnswersLeastAndGreatest() {
        Stemspan x = Check.withText("ab");
        x.put(0);
        Check.due("least number", x.take(), 0);
        x.put(999);
        Check.due("greatest number", x.take(), 999);
        x.put(1);
        x.put(2);
        Check.due("the number put last", x.take(), 2);
    }

    private static void takeAmongNone() {
        Stemspan x = new Stemspan();
        Check.dueThrow("no signs", x, NoSuchElementException.class, () -> x.take());
        x.type('a');
        Check.dueThrow("a", x, NoSuchElementException.class, () -> x.take());
    }

    private static void takeTwice() {
        Stemspan x = Check.withText("ab");
        x.put(5);
        x.take();
        Check.dueThrow("ab", x, NoSuchElementException.class, () -> x.take());
    }

    private static void takeNoWord() {
        Stemspan x = new Stemspan();
        Check.putAll(x, "ab=1", "abcdefabcd=2");
        for (String text : new String[] {"", "a", "aa", "aba", "abc", "b", "ba", "abcdefabc", "abcdefabcda", FULL}) {
            Check.setText(x, text);
            Check.dueThrow(text, x, NoSuchElementException.class, () -> x.take());
        }
    }

    private static void number() {
        Doc.promise(12);
        Doc.row("Returns the number of the text.", WordsEdgesTest::numberOfFirstAndLast);
        Doc.row("Returns the number.", WordsEdgesTest::numberLeastAndGreatest);
        Doc.row("Throws `NoSuchElementException` if it is no word",
            WordsEdgesTest::numberAmongNone,
            WordsEdgesTest::numberOfNoWord,
            WordsEdgesTest::numberOfTaken);
    }

    private static void numberOfFirstAndLast() {
        Stemspan x = fullList();
        Check.setText(x, "aa");
        Check.due("the first one", x.number(), 0);
        Check.setText(x, "df");
        Check.due("the last one", x.number(), 23);
        Check.due("text", Check.textOf(x), "df");
    }

    private static void numberLeastAndGreatest() {
        Stemspan x = Check.withText("ab");
        x.put(0);
        Check.due("least number", x.number(), 0);
        x.put(999);
        Check.due("greatest number", x.number(), 999);
    }

    private static void numberAmongNone() {
        Stemspan x = new Stemspan();
        Check.dueThrow("no signs", x, NoSuchElementException.class, () -> x.number());
        x.type('a');
        Check.dueThrow("a", x, NoSuchElementException.class, () -> x.number());
    }

    private static void numberOfNoWord() {
        Stemspan x = new Stemspan();
        Check.putAll(x, "ab=1", "abcdefabcd=2");
        for (String text : new String[] {"", "a", "aa", "aba", "abc", "b", "ba", "abcdefabc", "abcdefabcda", FULL}) {
            Check.setText(x, text);
            Check.dueThrow(text, x, NoSuchElementException.class, () -> x.number());
        }
    }

    private static void numberOfTaken() {
        Stemspan x = Check.withText("ab");
        x.put(5);
        x.take();
        Check.dueThrow("taken", x, NoSuchElementException.class, () -> x.number());
    }

    private static void words() {
        Doc.promise(13);
        Doc.row("Returns how many words there are.",
            WordsEdgesTest::wordsOfNone,
            WordsEdgesTest::wordsUpToFull,
            WordsEdgesTest::wordsDownToNone);
        Doc.row("Returns how many.", WordsEdgesTest::wordsPutAgain, WordsEdgesTest::wordsRefused);
    }

    private static void wordsOfNone() {
        Check.due("none", new Stemspan().words(), 0);
    }

    private static void wordsUpToFull() {
        for (int many = 0; many <= 24; many++) {
            Stemspan x = new Stemspan();
            Check.fill(x, many);
            Check.due("words", x.words(), many);
        }
    }

    private static void wordsDownToNone() {
        Stemspan x = fullList();
        for (int left = 23; left >= 0; left--) {
            x.word(left / 2);
            x.take();
            Check.due("words", x.words(), left);
        }
    }

    private static void wordsPutAgain() {
        Stemspan x = Check.withText("ab");
        x.put(5);
        x.put(6);
        Check.due("words", x.words(), 1);
    }

    private static void wordsRefused() {
        Stemspan x = fullList();
        Check.setText(x, "f");
        Check.dueThrow("the 25th", x, IllegalStateException.class, () -> x.put(1));
        Check.due("words", x.words(), 24);
    }

    private static void rank() {
        Doc.promise(14);
        Doc.row("Returns how many words are less than the text.",
            WordsEdgesTest::rankOfWord,
            WordsEdgesTest::rankOfNoSigns,
            WordsEdgesTest::rankOfShorterAndLonger);
        Doc.row("Returns how many.",
            WordsEdgesTest::rankAmongNone,
            WordsEdgesTest::rankLeastAndGreatest);
    }

    private static void rankOfWord() {
        Stemspan x = fullList();
        for (int rank = 0; rank < 24; rank++) {
            x.word(rank);
            Check.due("a word is not less than itself", x.rank(), rank);
        }
    }

    private static void rankOfNoSigns() {
        Stemspan x = fullList();
        Check.due("rank", x.rank(), 0);
        Check.due("text", Check.textOf(x), "");
    }

    private static void rankOfShorterAndLonger() {
        Stemspan x = new Stemspan();
        Check.putAll(x, "bb=1");
        Check.setText(x, "b");
        Check.due("what the word begins with", x.rank(), 0);
        Check.setText(x, "bb");
        Check.due("the word", x.rank(), 0);
        Check.setText(x, "bba");
        Check.due("what begins with the word", x.rank(), 1);
        Check.setText(x, "ba" + "f".repeat(22));
        Check.due("a longer one that is less", x.rank(), 0);
        Check.setText(x, "c");
        Check.due("a shorter one that is greater", x.rank(), 1);
    }

    private static void rankAmongNone() {
        Stemspan x = new Stemspan();
        Check.due("no signs", x.rank(), 0);
        Check.setText(x, FULL);
        Check.due("24 signs", x.rank(), 0);
    }

    private static void rankLeastAndGreatest() {
        Stemspan x = fullList();
        Check.setText(x, "a");
        Check.due("less than all", x.rank(), 0);
        Check.setText(x, "f".repeat(24));
        Check.due("greater than all", x.rank(), 24);
        Check.setText(x, "dfa");
        Check.due("just greater than all", x.rank(), 24);
    }

    private static void word() {
        Doc.promise(15);
        Doc.row("Makes the text a word.", WordsEdgesTest::wordIntoNoneAndFull);
        Doc.row("- `rank`: the rank of the word", WordsEdgesTest::wordOfEachRank);
        Doc.row("Returns how many signs it has.", WordsEdgesTest::wordOfOneAndTenSigns);
        Doc.row("Throws `IndexOutOfBoundsException` if there is no such rank",
            WordsEdgesTest::wordRankTooSmall,
            WordsEdgesTest::wordRankTooLarge,
            WordsEdgesTest::wordAmongNone);
    }

    private static void wordIntoNoneAndFull() {
        Stemspan x = new Stemspan();
        Check.putAll(x, "ab=1");
        x.word(0);
        Check.due("text that was empty", Check.textOf(x), "ab");
        Check.setText(x, FULL);
        x.word(0);
        Check.due("text that was full", Check.textOf(x), "ab");
        x.type('c');
        Check.due("the word stays", Check.wordsOf(x), "ab=1");
    }

    private static void wordOfEachRank() {
        Stemspan x = fullList();
        for (int rank = 0; rank < 24; rank++) {
            x.word(rank);
            Check.due("text", Check.textOf(x), "" + (char) ('a' + rank / 6) + (char) ('a' + rank % 6));
        }
    }

    private static void wordOfOneAndTenSigns() {
        Stemspan x = new Stemspan();
        Check.putAll(x, "a=1", "abcdefabcd=2");
        Check.due("one sign", x.word(0), 1);
        Check.due("ten signs", x.word(1), 10);
        Check.due("text", Check.textOf(x), "abcdefabcd");
    }

    private static void wordRankTooSmall() {
        Stemspan x = fullList();
        Check.setText(x, "abc");
        for (int rank : new int[] {-1, -2, -24, LEAST}) {
            Check.dueThrow("rank " + rank, x, IndexOutOfBoundsException.class, () -> x.word(rank));
        }
    }

    private static void wordRankTooLarge() {
        Stemspan x = fullList();
        Check.setText(x, "abc");
        for (int rank : new int[] {24, 25, GREATEST}) {
            Check.dueThrow("rank " + rank + " of 24", x, IndexOutOfBoundsException.class, () -> x.word(rank));
        }
        Check.setText(x, "df");
        x.take();
        Check.dueThrow("rank 23 of 23", x, IndexOutOfBoundsException.class, () -> x.word(23));
        Check.due("rank 22 of 23", x.word(22), 2);
        Stemspan one = Check.withText("a");
        one.put(1);
        Check.dueThrow("rank 1 of 1", one, IndexOutOfBoundsException.class, () -> one.word(1));
    }

    private static void wordAmongNone() {
        Stemspan x = Check.withText("a");
        Check.dueThrow("rank 0 of none", x, IndexOutOfBoundsException.class, () -> x.word(0));
        Check.dueThrow("rank -1 of none", x, IndexOutOfBoundsException.class, () -> x.word(-1));
    }

    private static void near() {
        Doc.promise(16);
        Doc.row("Makes the text a word that is near to it.", WordsEdgesTest::nearFromNoneAndFull);
        Doc.row("- `how`: 'f' the greatest word that is not greater than the text, 'c' the least one that is not "
            + "less, 'l' the greatest one that is less, 'h' the least one that is greater",
            WordsEdgesTest::nearOfWord,
            WordsEdgesTest::nearOfWhatIsBetween,
            WordsEdgesTest::nearOfShorterAndLonger);
        Doc.row("Returns the number of that word.", WordsEdgesTest::nearAnswersLeastAndGreatest);
        Doc.row("Throws `IllegalArgumentException` if how is none of these",
            WordsEdgesTest::nearNoHow,
            WordsEdgesTest::nearNoHowAmongNone);
        Doc.row("Throws `NoSuchElementException` if there is no such word",
            WordsEdgesTest::nearAmongNone,
            WordsEdgesTest::nearBeforeTheFirst,
            WordsEdgesTest::nearBehindTheLast);
    }

    private static Stemspan three() {
        Stemspan x = new Stemspan();
        Check.putAll(x, "b=1", "bc=2", "d=3");
        return x;
    }

    private static void nearDue(String text, char how, String want, int number) {
        Stemspan x = three();
        Check.setText(x, text);
        Check.due(how + " of " + text, x.near(how), number);
        Check.due("text", Check.textOf(x), want);
        Check.due("words", Check.wordsOf(x), "b=1 bc=2 d=3");
    }

    private static void nearNone(String text, char how) {
        Stemspan x = three();
        Check.setText(x, text);
        Check.dueThrow(how + " of " + text, x, NoSuchElementException.class, () -> x.near(how));
    }

    private static void nearFromNoneAndFull() {
        nearDue("", 'c', "b", 1);
        nearDue("", 'h', "b", 1);
        nearDue("f".repeat(24), 'f', "d", 3);
        nearDue("f".repeat(24), 'l', "d", 3);
    }

    private static void nearOfWord() {
        nearDue("bc", 'f', "bc", 2);
        nearDue("bc", 'c', "bc", 2);
        nearDue("bc", 'l', "b", 1);
        nearDue("bc", 'h', "d", 3);
        nearDue("b", 'f', "b", 1);
        nearDue("d", 'c', "d", 3);
    }

    private static void nearOfWhatIsBetween() {
        nearDue("c", 'f', "bc", 2);
        nearDue("c", 'c', "d", 3);
        nearDue("c", 'l', "bc", 2);
        nearDue("c", 'h', "d", 3);
    }

    private static void nearOfShorterAndLonger() {
        nearDue("a", 'c', "b", 1);
        nearDue("ba", 'f', "b", 1);
        nearDue("ba", 'c', "bc", 2);
        nearDue("bca", 'l', "bc", 2);
        nearDue("bca", 'h', "d", 3);
        nearDue("da", 'l', "d", 3);
    }

    private static void nearAnswersLeastAndGreatest() {
        Stemspan x = new Stemspan();
        Check.putAll(x, "a=0", "b=999");
        Check.due("least number", x.near('c'), 0);
        Check.due("greatest number", x.near('h'), 999);
    }

    private static void nearNoHow() {
        Stemspan x = three();
        Check.setText(x, "bc");
        for (char how : new char[] {'a', 'b', 'd', 'e', 'g', 'i', 'k', 'm', 'F', 'C', 'L', 'H', ' ', (char) 0,
            (char) 65535, (char) (256 + 'f'), (char) (256 + 'h')}) {
            Check.dueThrow("how " + (int) how, x, IllegalArgumentException.class, () -> x.near(how));
        }
    }

    private static void nearNoHowAmongNone() {
        Stemspan x = Check.withText("a");
        Check.dueThrow("how e", x, IllegalArgumentException.class, () -> x.near('e'));
        Check.dueThrow("how F", x, IllegalArgumentException.class, () -> x.near('F'));
    }

    private static void nearAmongNone() {
        for (String text : new String[] {"", "a", FULL}) {
            Stemspan x = Check.withText(text);
            for (char how : new char[] {'f', 'c', 'l', 'h'}) {
                Check.dueThrow(how + " of " + text, x, NoSuchElementException.class, () -> x.near(how));
            }
        }
    }

    private static void nearBeforeTheFirst() {
        nearNone("", 'f');
        nearNone("", 'l');
        nearNone("a", 'f');
        nearNone("a", 'l');
        nearNone("a".repeat(24), 'f');
        nearNone("b", 'l');
    }

    private static void nearBehindTheLast() {
        nearNone("d", 'h');
        nearNone("da", 'c');
        nearNone("da", 'h');
        nearNone("f", 'c');
        nearNone("f", 'h');
        Stemspan x = fullList();
        Check.setText(x, "df");
        Check.dueThrow("h of the last one of 24", x, NoSuchElementException.class, () -> x.near('h'));
        Check.due("c of the last one of 24", x.near('c'), 23);
    }
}
