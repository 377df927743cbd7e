import java.math.BigInteger;

/** The edges that promises 32 and 33 name, row by row: isTrue and checksum. */
public final class AllEdgesTest {
    private static final String FULL = "abcdefabcdefabcdefabcdef";
    private static final String A24 = "a".repeat(24);

    public static void main(String[] args) {
        isTrue();
        checksum();
        Doc.close();
        Check.end();
    }

    private static void isTrue() {
        Doc.promise(32);
        Doc.row("Checks the theorem for the text and the words that there are: that, for each row with which the "
            + "text begins, of at most 10 signs, the words that begin with it stand side by side as told; for each "
            + "place of the text the longest word, and what the text has in common with words; what two words have "
            + "in common; cuts of the text; and, if the codes are orderly, that the words, each written, keep their "
            + "order and beginnings.",
            AllEdgesTest::isTrueOfNoSignsAndNoWords,
            AllEdgesTest::isTrueOfMoreThanTenSigns,
            AllEdgesTest::isTrueOfOneWord,
            AllEdgesTest::isTrueOfTwentyFourWords,
            AllEdgesTest::isTrueNoWordIsNotGreater,
            AllEdgesTest::isTrueEachEndIsAWord,
            AllEdgesTest::isTrueThoughTheLongestFails,
            AllEdgesTest::isTrueOfMostWays,
            AllEdgesTest::isTrueThoughWordsWouldBeTooLong,
            AllEdgesTest::isTrueThoughCodesAreNotOrderly);
        Doc.row("Returns whether all of this is so.", AllEdgesTest::isTrueChangesNothing);
    }

    private static void trueDue(String text, String... entries) {
        Stemspan x = new Stemspan();
        Check.putAll(x, entries);
        Check.setText(x, text);
        Check.due("isTrue of " + text, x.isTrue(), true);
    }

    private static void isTrueOfNoSignsAndNoWords() {
        trueDue("");
        trueDue("a");
        trueDue(FULL);
        trueDue("", "a=1");
    }

    private static void isTrueOfMoreThanTenSigns() {
        for (int size = 9; size <= 24; size++) {
            trueDue(FULL.substring(0, size), "abcdefabcd=1", "abcdefabc=2", "abcdefabce=3");
        }
    }

    private static void isTrueOfOneWord() {
        trueDue("a", "a=1");
        trueDue("ab", "a=1");
        trueDue("a", "ab=1");
    }

    private static void isTrueOfTwentyFourWords() {
        Stemspan x = new Stemspan();
        Check.fill(x, 24);
        for (int rank = 0; rank < 24; rank++) {
            x.word(rank);
            Check.due("isTrue", x.isTrue(), true);
        }
        Check.setText(x, A24);
        Check.due("isTrue of the least text of 24", x.isTrue(), true);
        Check.setText(x, "f".repeat(24));
        Check.due("isTrue of the greatest text", x.isTrue(), true);
    }

    private static void isTrueNoWordIsNotGreater() {
        trueDue("a", "b=1", "c=2");
        trueDue("ba", "bb=1", "c=2");
        trueDue("c", "b=1", "ba=2");
    }

    private static void isTrueEachEndIsAWord() {
        trueDue("cbacba", "a=1", "ba=2", "cba=3");
        trueDue("aaabab", "a=1", "b=2", "ab=3", "aab=4");
        trueDue("abf", "a=1", "b=2", "ab=3");
    }

    private static void isTrueThoughTheLongestFails() {
        trueDue("abc", "a=1", "ab=2", "bc=3");
        trueDue("abcde", "ab=1", "cde=2", "abc=3", "d=4", "e=5");
        trueDue("aaaa", "aaa=1", "aa=2");
    }

    private static void isTrueOfMostWays() {
        Stemspan x = new Stemspan();
        for (int size = 1; size <= 10; size++) {
            Check.putAll(x, "a".repeat(size) + "=1");
        }
        Check.setText(x, A24);
        Check.due("isTrue", x.isTrue(), true);
    }

    private static void isTrueThoughWordsWouldBeTooLong() {
        Stemspan x = new Stemspan();
        Check.setCodes(x, "aaa", "aab", "aac", "ab", "ac", "b");
        Check.putAll(x, "aaaaaaaaaa=1", "aaaaaaaaab=2", "aaaaaaaaa=3", "cccccccccc=4", "d=5");
        Check.due("isTrue", x.isTrue(), true);
        Check.dueThrow("writeAll", x, IllegalStateException.class, () -> x.writeAll());
    }

    private static void isTrueThoughCodesAreNotOrderly() {
        Stemspan x = new Stemspan();
        Check.setCodes(x, "b", "a", "a", "ab", "f", "f");
        Check.putAll(x, "a=1", "b=2", "c=3", "ef=4", "fe=5");
        Check.setText(x, "abc");
        Check.due("isTrue", x.isTrue(), true);
    }

    private static void isTrueChangesNothing() {
        Stemspan x = new Stemspan();
        Check.setCodes(x, "a", "ba", "bb", "bca", "bcc", "f");
        Check.fill(x, 24);
        Check.setText(x, FULL);
        long before = x.checksum();
        x.isTrue();
        Check.due("checksum", x.checksum(), before);
        Check.due("text", Check.textOf(x), FULL);
    }

    private static void checksum() {
        Doc.promise(33);
        Doc.row("Returns a sum over all, a long that goes round.", AllEdgesTest::checksumGoesRound);
        Doc.row("Returns 7 at first; then, for each sign of the text, 31 times itself plus the sign as the number "
            + "that the char is; then, for each word, by ranks, likewise each of its signs, and then its number; "
            + "then, for the code of each sign, a first, likewise how many signs it has, and then each of these.",
            AllEdgesTest::checksumOfNewObject,
            AllEdgesTest::checksumOfText,
            AllEdgesTest::checksumOfFullText,
            AllEdgesTest::checksumOfWordsByRanks,
            AllEdgesTest::checksumOfLeastAndGreatestNumber,
            AllEdgesTest::checksumOfFullList,
            AllEdgesTest::checksumOfCodes,
            AllEdgesTest::checksumOfWrittenWords);
    }

    /** The sum as the document tells it, of text, words with their numbers, and codes; it goes round at the end. */
    private static BigInteger told(String text, String[] entries, String... codes) {
        BigInteger sum = signs(BigInteger.valueOf(7), text);
        for (String entry : entries) {
            int at = entry.indexOf('=');
            sum = next(signs(sum, entry.substring(0, at)), Integer.parseInt(entry.substring(at + 1)));
        }
        for (String code : codes) {
            sum = signs(next(sum, code.length()), code);
        }
        return sum;
    }

    private static BigInteger signs(BigInteger start, String row) {
        BigInteger sum = start;
        for (int i = 0; i < row.length(); i++) {
            sum = next(sum, row.charAt(i));
        }
        return sum;
    }

    private static BigInteger next(BigInteger sum, int number) {
        return sum.multiply(BigInteger.valueOf(31)).add(BigInteger.valueOf(number));
    }

    private static void sumDue(Stemspan x, String text, String... entries) {
        Check.due("checksum", x.checksum(), told(text, entries, "a", "b", "c", "d", "e", "f").longValue());
    }

    private static Stemspan with(String text, String... entries) {
        Stemspan x = new Stemspan();
        Check.putAll(x, entries);
        Check.setText(x, text);
        return x;
    }

    private static void checksumGoesRound() {
        BigInteger first = told("", new String[0], "a", "b", "c", "d", "e", "f");
        Check.due("the sum at first does not go round yet", first.bitLength() < 64, true);
        // One sign more goes past the greatest long, and comes out below 0 once.
        boolean below = false;
        for (String text : new String[] {"a", "b", "c", "d", "e", "f", "aa", "fff"}) {
            BigInteger sum = told(text, new String[0], "a", "b", "c", "d", "e", "f");
            Check.due("the sum goes round", sum.bitLength() > 63, true);
            sumDue(Check.withText(text), text);
            below = below || Check.withText(text).checksum() < 0;
        }
        Check.due("once below 0", below, true);
    }

    private static void checksumOfNewObject() {
        Check.due("checksum", new Stemspan().checksum(), 5618662045693807510L);
        sumDue(new Stemspan(), "");
    }

    private static void checksumOfText() {
        sumDue(Check.withText("a"), "a");
        sumDue(Check.withText("fa"), "fa");
        Stemspan x = Check.withText("fa");
        x.wipe();
        Check.due("wiped", x.checksum(), new Stemspan().checksum());
    }

    private static void checksumOfFullText() {
        sumDue(Check.withText(FULL), FULL);
        sumDue(Check.withText("f".repeat(24)), "f".repeat(24));
    }

    private static void checksumOfWordsByRanks() {
        sumDue(with("", "f=1", "ab=2", "a=3"), "", "a=3", "ab=2", "f=1");
        sumDue(with("cd", "b=1", "abcdefabcd=2"), "cd", "abcdefabcd=2", "b=1");
    }

    private static void checksumOfLeastAndGreatestNumber() {
        sumDue(with("", "a=0"), "", "a=0");
        sumDue(with("", "a=999", "b=0"), "", "a=999", "b=0");
    }

    private static void checksumOfFullList() {
        Stemspan x = new Stemspan();
        String[] entries = new String[24];
        for (int i = 23; i >= 0; i--) {
            entries[i] = "abcdefab" + (char) ('a' + i / 6) + (char) ('a' + i % 6) + "=" + (999 - i);
            Check.putAll(x, entries[i]);
        }
        Check.setText(x, FULL);
        sumDue(x, FULL, entries);
    }

    private static void checksumOfCodes() {
        Stemspan x = new Stemspan();
        Check.setCodes(x, "fff", "a", "ab", "c", "aa", "abc");
        Check.due("checksum", x.checksum(),
            told("", new String[0], "fff", "a", "ab", "c", "aa", "abc").longValue());
        Check.putAll(x, "b=5");
        Check.setText(x, "cab");
        Check.due("checksum", x.checksum(),
            told("cab", new String[] {"b=5"}, "fff", "a", "ab", "c", "aa", "abc").longValue());
    }

    private static void checksumOfWrittenWords() {
        Stemspan x = new Stemspan();
        Check.setCodes(x, "a", "ba", "bb", "bca", "bcc", "f");
        Check.putAll(x, "b=1", "d=2");
        x.writeAll();
        Check.due("checksum", x.checksum(),
            told("", new String[] {"ba=1", "bca=2"}, "a", "ba", "bb", "bca", "bcc", "f").longValue());
    }
}
