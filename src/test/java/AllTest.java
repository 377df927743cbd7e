/** Promises 32 and 33: isTrue and checksum. */
public final class AllTest {
    public static void main(String[] args) {
        isTrue();
        checksum();
        Check.end();
    }

    private static void isTrue() {
        Stemspan x = new Stemspan();
        Check.due("isTrue at first", x.isTrue(), true);
        Check.putAll(x, "a=1", "ab=20", "abc=300", "b=6", "bc=8", "c=9", "abcdefabcd=999", "fffffffffa=5");
        String[] texts = {"", "a", "abcabc", "abcdefabcde", "ffffffffff", "fffffffffafffffffffafff",
            "abcdefabcdabcdefabcdabcd"};
        for (String text : texts) {
            Check.setText(x, text);
            trueAndUntouched(x, "isTrue of " + text);
        }
        Check.setCodes(x, "aaa", "aab", "aac", "ab", "ac", "bca");
        trueAndUntouched(x, "isTrue, words of 30 signs as written");
        Check.setCodes(x, "b", "a", "a", "ab", "ac", "bca");
        trueAndUntouched(x, "isTrue, codes not orderly");
        endsAreWords();
        full();
    }

    private static void endsAreWords() {
        Stemspan x = new Stemspan();
        Check.putAll(x, "a=1", "ba=2", "bba=3", "cbba=4", "b=5", "ab=6");
        for (String text : new String[] {"cbbabba", "abababab", "bbbbabab", "cbb", "bbac"}) {
            Check.setText(x, text);
            trueAndUntouched(x, "isTrue, each end a word, of " + text);
        }
    }

    private static void full() {
        Stemspan x = new Stemspan();
        StringBuilder row = new StringBuilder();
        for (int size = 1; size <= 10; size++) {
            Check.putAll(x, row.append('f') + "=1", row.substring(1) + "a=2");
        }
        Check.putAll(x, "b=1", "bf=2", "bff=3", "bfff=4");
        Check.due("isTrue, full list", x.words(), 24);
        Check.setText(x, "ffffffffffffffffffffffff");
        trueAndUntouched(x, "isTrue, full list and text");
    }

    private static void trueAndUntouched(Stemspan x, String what) {
        long before = x.checksum();
        Check.due(what, x.isTrue(), true);
        Check.due(what + " changes nothing", x.checksum(), before);
    }

    private static void checksum() {
        Stemspan x = new Stemspan();
        long codes = 7;
        for (int i = 0; i < 6; i++) {
            codes = (codes * 31 + 1) * 31 + 'a' + i;
        }
        Check.due("checksum at first", x.checksum(), codes);
        Check.due("checksum at first", x.checksum(), 5618662045693807510L);
        Check.putAll(x, "b=70", "ab=3");
        Check.setText(x, "cab");
        x.code('b');
        Check.setText(x, "fa");
        long[] row = {'f', 'a', 'a', 'b', 3, 'b', 70, 1, 'a', 3, 'c', 'a', 'b', 1, 'c', 1, 'd', 1, 'e', 1, 'f'};
        long sum = 7;
        for (long next : row) {
            sum = 31 * sum + next;
        }
        Check.due("checksum", x.checksum(), sum);
        Check.due("checksum: text stays", Check.textOf(x), "fa");
    }
}
