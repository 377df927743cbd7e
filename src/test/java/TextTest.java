/** Promises 1 to 9: a new object, and the text. */
public final class TextTest {
    private static final String FULL = "abcdefabcdefabcdefabcdef";

    public static void main(String[] args) {
        newObject();
        type();
        typeMore();
        typeAt();
        drop();
        clip();
        wipe();
        turn();
        signAt();
        Check.end();
    }

    private static void newObject() {
        Stemspan x = new Stemspan();
        Check.due("new: text", Check.textOf(x), "");
        Check.due("new: words", x.words(), 0);
        for (char sign = 'a'; sign <= 'f'; sign++) {
            Check.setText(x, String.valueOf(sign));
            Check.due("new: write", x.write(), 1);
            Check.due("new: code is the sign", Check.textOf(x), String.valueOf(sign));
            Check.due("new: code has one sign", x.code(sign), 1);
        }
        Stemspan one = Check.withText("ab");
        one.put(3);
        Check.due("two objects share nothing", new Stemspan().words(), 0);
    }

    private static void type() {
        Stemspan x = new Stemspan();
        for (int i = 0; i < FULL.length(); i++) {
            Check.due("type", x.type(FULL.charAt(i)), i + 1);
        }
        Check.due("type: text", Check.textOf(x), FULL);
        Check.dueThrow("type into a full text", x, IllegalStateException.class, () -> x.type('a'));
        Check.dueThrow("type no sign into a full text", x, IllegalArgumentException.class, () -> x.type('g'));
        Stemspan y = Check.withText("ab");
        for (char sign : new char[] {'g', '`', 'A', 'F', ' ', '0', (char) 0, (char) 65535, (char) (97 + 256)}) {
            Check.dueThrow("type no sign", y, IllegalArgumentException.class, () -> y.type(sign));
        }
    }

    private static void typeMore() {
        Stemspan x = new Stemspan();
        Check.due("typeMore", x.typeMore(3, 1 + 2 * 6 + 5 * 36), 3);
        Check.due("typeMore: lowest place first", Check.textOf(x), "bcf");
        Check.due("typeMore, places left out", x.typeMore(1, 3 + 6 * 5), 4);
        Check.due("typeMore: text", Check.textOf(x), "bcfd");
        Check.due("typeMore, zeros behind", x.typeMore(4, 4), 8);
        Check.due("typeMore: text", Check.textOf(x), "bcfdeaaa");
        Check.due("typeMore, greatest", x.typeMore(8, 1679615), 16);
        Check.due("typeMore, up to full", x.typeMore(8, 0), 24);
        Check.due("typeMore: text", Check.textOf(x), "bcfdeaaaffffffffaaaaaaaa");
        Check.dueThrow("typeMore into a full text", x, IllegalStateException.class, () -> x.typeMore(1, 0));
        Check.dueThrow("typeMore, both", x, IllegalArgumentException.class, () -> x.typeMore(0, 0));
        Check.dueThrow("typeMore, both", x, IllegalArgumentException.class, () -> x.typeMore(1, 1679616));
        Stemspan y = Check.withText(FULL.substring(0, 20));
        Check.dueThrow("typeMore one too many", y, IllegalStateException.class, () -> y.typeMore(5, 7));
        Check.due("typeMore just enough", y.typeMore(4, 7), 24);
        Stemspan z = new Stemspan();
        int[][] wrong = {{0, 0}, {9, 0}, {-1, 0}, {Integer.MIN_VALUE, 0}, {Integer.MAX_VALUE, 0}, {1, -1},
            {8, 1679616}, {1, Integer.MAX_VALUE}, {1, Integer.MIN_VALUE}};
        for (int[] pair : wrong) {
            Check.dueThrow("typeMore out of range", z, IllegalArgumentException.class,
                () -> z.typeMore(pair[0], pair[1]));
        }
    }

    private static void typeAt() {
        Stemspan x = new Stemspan();
        Check.due("typeAt behind all of none", x.typeAt(0, 'c'), 1);
        Check.due("typeAt ahead of all", x.typeAt(0, 'a'), 2);
        Check.due("typeAt between", x.typeAt(1, 'b'), 3);
        Check.due("typeAt behind all", x.typeAt(3, 'f'), 4);
        Check.due("typeAt: text", Check.textOf(x), "abcf");
        for (int place : new int[] {-1, 5, Integer.MIN_VALUE, Integer.MAX_VALUE}) {
            Check.dueThrow("typeAt, no place", x, IndexOutOfBoundsException.class, () -> x.typeAt(place, 'a'));
            Check.dueThrow("typeAt, no place, no sign", x, IndexOutOfBoundsException.class,
                () -> x.typeAt(place, 'g'));
        }
        Check.dueThrow("typeAt, no sign", x, IllegalArgumentException.class, () -> x.typeAt(4, 'g'));
        Stemspan y = Check.withText(FULL);
        Check.dueThrow("typeAt, full", y, IllegalStateException.class, () -> y.typeAt(24, 'a'));
        Check.dueThrow("typeAt, full", y, IllegalStateException.class, () -> y.typeAt(0, 'a'));
        Check.dueThrow("typeAt, full, no sign", y, IllegalArgumentException.class, () -> y.typeAt(0, '`'));
        Check.dueThrow("typeAt, full, no place", y, IndexOutOfBoundsException.class, () -> y.typeAt(25, 'a'));
        y.drop();
        Check.due("typeAt up to full", y.typeAt(0, 'f'), 24);
        Check.due("typeAt: text", Check.textOf(y), "f" + FULL.substring(0, 23));
    }

    private static void drop() {
        Stemspan x = Check.withText("abc");
        Check.due("drop", x.drop(), 2);
        Check.due("drop: text", Check.textOf(x), "ab");
        x.drop();
        Check.due("drop the last one", x.drop(), 0);
        Check.dueThrow("drop from none", x, java.util.NoSuchElementException.class, () -> x.drop());
    }

    private static void clip() {
        Stemspan x = Check.withText("abcdef");
        Check.due("clip between", x.clip(1, 3), 4);
        Check.due("clip: text", Check.textOf(x), "adef");
        Check.due("clip none", x.clip(2, 2), 4);
        Check.due("clip none at the end", x.clip(4, 4), 4);
        Check.due("clip: text", Check.textOf(x), "adef");
        Check.due("clip the last ones", x.clip(2, 4), 2);
        Check.due("clip: text", Check.textOf(x), "ad");
        Check.due("clip the first one", x.clip(0, 1), 1);
        Check.due("clip: text", Check.textOf(x), "d");
        int[][] wrong = {{-1, 0}, {-1, 1}, {1, 0}, {0, 2}, {2, 2}, {Integer.MIN_VALUE, Integer.MAX_VALUE},
            {0, Integer.MAX_VALUE}, {0, Integer.MIN_VALUE}, {Integer.MIN_VALUE, 0}};
        for (int[] pair : wrong) {
            Check.dueThrow("clip out of range", x, IndexOutOfBoundsException.class, () -> x.clip(pair[0], pair[1]));
        }
        Check.due("clip all", x.clip(0, 1), 0);
        Check.due("clip none of none", x.clip(0, 0), 0);
    }

    private static void wipe() {
        Stemspan x = Check.withText(FULL);
        Check.due("wipe", x.wipe(), 24);
        Check.due("wipe: text", Check.textOf(x), "");
        Check.due("wipe nothing", x.wipe(), 0);
    }

    private static void turn() {
        Stemspan x = Check.withText("abcf");
        Check.due("turn", x.turn(), false);
        Check.due("turn: text", Check.textOf(x), "fcba");
        Check.setText(x, "abcaa");
        Check.due("turn, only inner ones unlike", x.turn(), false);
        Check.due("turn: text", Check.textOf(x), "aacba");
        Check.setText(x, "abcba");
        Check.due("turn the same", x.turn(), true);
        Check.due("turn: text", Check.textOf(x), "abcba");
        Check.due("turn the same, even", Check.withText("abba").turn(), true);
        Check.due("turn one", Check.withText("d").turn(), true);
        Check.due("turn none", new Stemspan().turn(), true);
    }

    private static void signAt() {
        Stemspan x = Check.withText("fade");
        Check.due("signAt", x.signAt(0), 'f');
        Check.due("signAt", x.signAt(1), 'a');
        Check.due("signAt", x.signAt(3), 'e');
        for (int place : new int[] {-1, 4, 23, Integer.MIN_VALUE, Integer.MAX_VALUE}) {
            Check.dueThrow("signAt, no place", x, IndexOutOfBoundsException.class, () -> x.signAt(place));
        }
        Stemspan y = new Stemspan();
        Check.dueThrow("signAt of none", y, IndexOutOfBoundsException.class, () -> y.signAt(0));
    }
}
