import java.util.NoSuchElementException;

/** Promises 24 to 27: cuts. */
public final class CutsTest {
    public static void main(String[] args) {
        pieces();
        piece();
        cuts();
        fewest();
        Check.end();
    }

    private static Stemspan greedyFails() {
        Stemspan x = new Stemspan();
        Check.putAll(x, "a=1", "ab=2", "abc=3", "cd=4");
        return x;
    }

    private static void pieces() {
        Stemspan x = greedyFails();
        Check.due("pieces of none", x.pieces(), 0);
        Check.setText(x, "abcaba");
        Check.due("pieces", x.pieces(), 3);
        Check.due("pieces: text stays", Check.textOf(x), "abcaba");
        Check.setText(x, "abcd");
        Check.due("pieces, left though there is a way", x.pieces(), -4);
        Check.setText(x, "dabc");
        Check.due("pieces, nothing cut", x.pieces(), -1);
        Check.setText(x, "aaaaaaaaaaaaaaaaaaaaaaad");
        Check.due("pieces, the last one left", x.pieces(), -24);
        Check.setText(x, "aaaaaaaaaaaaaaaaaaaaaaaa");
        Check.due("pieces at most", x.pieces(), 24);
        Check.due("pieces of none without words", new Stemspan().pieces(), 0);
        Check.due("pieces without words", Check.withText("a").pieces(), -1);
    }

    private static void piece() {
        Stemspan x = greedyFails();
        Check.setText(x, "abcabad");
        int[] sizes = {3, 2, 1};
        for (int i = 0; i < sizes.length; i++) {
            Check.due("piece, something left", x.piece(i), sizes[i]);
        }
        for (int index : new int[] {-1, 3, 4, 24, 25, Integer.MIN_VALUE, Integer.MAX_VALUE}) {
            Check.dueThrow("piece, no such one", x, NoSuchElementException.class, () -> x.piece(index));
        }
        Check.setText(x, "abab");
        Check.due("piece", x.piece(1), 2);
        Check.dueThrow("piece behind all", x, NoSuchElementException.class, () -> x.piece(2));
        Check.setText(x, "aaaaaaaaaaaaaaaaaaaaaaaa");
        Check.due("piece, the last of 24", x.piece(23), 1);
        Check.dueThrow("piece behind 24", x, NoSuchElementException.class, () -> x.piece(24));
        Stemspan y = new Stemspan();
        Check.dueThrow("piece of none", y, NoSuchElementException.class, () -> y.piece(0));
    }

    private static void cuts() {
        Stemspan x = greedyFails();
        Check.due("cuts of none", x.cuts(), 1);
        Check.setText(x, "abcd");
        Check.due("cuts, one way", x.cuts(), 1);
        Check.setText(x, "abca");
        Check.due("cuts, not by a and bc", x.cuts(), 1);
        Check.setText(x, "d");
        Check.due("cuts, no way", x.cuts(), 0);
        Check.due("cuts of none without words", new Stemspan().cuts(), 1);
        Check.due("cuts without words", Check.withText("a").cuts(), 0);
        Stemspan y = new Stemspan();
        StringBuilder row = new StringBuilder();
        for (int size = 1; size <= 10; size++) {
            Check.putAll(y, row.append('a') + "=1");
        }
        Check.setText(y, "aaaaaaaaaa");
        Check.due("cuts, each way of ten", y.cuts(), 512);
        Check.due("cuts: text stays", Check.textOf(y), "aaaaaaaaaa");
        Check.setText(y, "aaaaaaaaaaaaaaaaaaaaaaaa");
        // 2 to the 23 less the ways with a piece of more than ten signs.
        Check.due("cuts, most ways", y.cuts(), 8327186);
    }

    private static void fewest() {
        Stemspan x = greedyFails();
        Check.due("fewest of none", x.fewest(), 0);
        Check.setText(x, "abcd");
        Check.due("fewest, not by the longest", x.fewest(), 2);
        Check.setText(x, "abcabaabcd");
        Check.due("fewest", x.fewest(), 5);
        Check.setText(x, "abd");
        Check.due("fewest, no way", x.fewest(), -1);
        Check.setText(x, "aaaaaaaaaaaaaaaaaaaaaaaa");
        Check.due("fewest at most", x.fewest(), 24);
        Check.due("fewest of none without words", new Stemspan().fewest(), 0);
        Check.due("fewest without words", Check.withText("a").fewest(), -1);
        Stemspan y = new Stemspan();
        Check.putAll(y, "a=1", "b=2", "c=3", "ab=4", "bcbc=5");
        Check.setText(y, "abcbc");
        Check.due("pieces, more than the fewest", y.pieces(), 4);
        Check.due("fewest, fewer than by the longest", y.fewest(), 2);
        Check.due("fewest: text stays", Check.textOf(y), "abcbc");
    }
}
