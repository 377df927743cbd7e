import java.util.NoSuchElementException;

/** The edges that promises 1 to 9 name, row by row: a new object, and the text. */
public final class TextEdgesTest {
    private static final String FULL = "abcdefabcdefabcdefabcdef";
    private static final int LEAST = Integer.MIN_VALUE;
    private static final int GREATEST = Integer.MAX_VALUE;
    // The neighbours of a and f, capitals, digits, and what a to f become if only their low bits are looked at.
    private static final char[] NO_SIGNS = {'`', 'g', 'A', 'F', 'z', '0', '5', ' ', (char) 0, (char) 1, (char) 5,
        (char) 127, (char) 225, (char) 353, (char) 358, (char) 32865, (char) 65535};

    public static void main(String[] args) {
        newObject();
        type();
        typeMore();
        typeAt();
        drop();
        clip();
        wipe();
        turn();
        signAt();
        Doc.close();
        Check.end();
    }

    private static void newObject() {
        Doc.promise(1);
        Doc.row("Creates an empty text, no words, and codes as they are at first.",
            TextEdgesTest::newTextIsEmpty,
            TextEdgesTest::newHasNoWords,
            TextEdgesTest::newCodesAreTheSigns,
            TextEdgesTest::newObjectsShareNothing);
    }

    private static void newTextIsEmpty() {
        Stemspan x = new Stemspan();
        Check.due("size", x.wipe(), 0);
        Check.dueThrow("no sign at 0", x, IndexOutOfBoundsException.class, () -> x.signAt(0));
        Check.dueThrow("no last sign", x, NoSuchElementException.class, () -> x.drop());
    }

    private static void newHasNoWords() {
        Stemspan x = new Stemspan();
        Check.due("words", x.words(), 0);
        Check.due("begun", x.begun(), 0);
        Check.dueThrow("no word of rank 0", x, IndexOutOfBoundsException.class, () -> x.word(0));
    }

    private static void newCodesAreTheSigns() {
        Stemspan x = Check.withText("abcdef");
        Check.due("write", x.write(), 6);
        Check.due("written by the first codes", Check.textOf(x), "abcdef");
        Check.due("read, as the first codes are orderly", x.read(), 6);
        Check.setText(x, "fff");
        for (char sign = 'a'; sign <= 'f'; sign++) {
            Check.due("size of the first code of " + sign, x.code(sign), 1);
        }
    }

    private static void newObjectsShareNothing() {
        Stemspan x = Check.withText("fe");
        x.put(9);
        x.code('a');
        Stemspan y = new Stemspan();
        Check.due("words of the other one", y.words(), 0);
        Check.due("text of the other one", Check.textOf(y), "");
        y.type('a');
        Check.due("code of the other one", y.code('a'), 1);
        Check.due("text of the first one", Check.textOf(x), "fe");
        Check.due("code of the first one", x.code('a'), 2);
    }

    private static void type() {
        Doc.promise(2);
        Doc.row("Puts a sign behind the text.", TextEdgesTest::typeIntoNone, TextEdgesTest::typeTheLast);
        Doc.row("- `sign`: the sign", TextEdgesTest::typeFirstAndLastSign);
        Doc.row("Returns how many signs the text has then.", TextEdgesTest::typeCounts);
        Doc.row("Throws `IllegalArgumentException` if it is no sign",
            TextEdgesTest::typeNoSign,
            TextEdgesTest::typeNoSignIntoFull);
        Doc.row("Throws `IllegalStateException` if the text has 24", TextEdgesTest::typeIntoFull);
    }

    private static void typeIntoNone() {
        Stemspan x = new Stemspan();
        x.type('c');
        Check.due("text", Check.textOf(x), "c");
        x.type('b');
        Check.due("text", Check.textOf(x), "cb");
    }

    private static void typeTheLast() {
        Stemspan x = Check.withText(FULL.substring(0, 23));
        Check.due("the 24th sign", x.type('a'), 24);
        Check.due("text", Check.textOf(x), FULL.substring(0, 23) + "a");
    }

    private static void typeFirstAndLastSign() {
        Stemspan x = new Stemspan();
        Check.due("a", x.type('a'), 1);
        Check.due("f", x.type('f'), 2);
        Check.due("text", Check.textOf(x), "af");
    }

    private static void typeCounts() {
        Stemspan x = new Stemspan();
        for (int i = 1; i <= 24; i++) {
            Check.due("sign " + i, x.type('e'), i);
        }
    }

    private static void typeNoSign() {
        for (char sign : NO_SIGNS) {
            Stemspan x = new Stemspan();
            Check.dueThrow("sign " + (int) sign, x, IllegalArgumentException.class, () -> x.type(sign));
            Stemspan y = Check.withText(FULL.substring(0, 23));
            Check.dueThrow("sign " + (int) sign, y, IllegalArgumentException.class, () -> y.type(sign));
        }
    }

    private static void typeNoSignIntoFull() {
        Stemspan x = Check.withText(FULL);
        for (char sign : NO_SIGNS) {
            Check.dueThrow("sign " + (int) sign, x, IllegalArgumentException.class, () -> x.type(sign));
        }
    }

    private static void typeIntoFull() {
        Stemspan x = Check.withText(FULL);
        Check.dueThrow("a 25th a", x, IllegalStateException.class, () -> x.type('a'));
        Check.dueThrow("a 25th f", x, IllegalStateException.class, () -> x.type('f'));
        x.drop();
        Check.due("once there is room", x.type('a'), 24);
    }

    private static void typeMore() {
        Doc.promise(3);
        Doc.row("Puts some signs behind the text: the places of the row to the base 6, the lowest one first, as "
            + "signs, 0 as a, 1 as b, and so on to 5 as f.", TextEdgesTest::typeMoreEachDigit);
        Doc.row("- `many`: how many signs, 1 to 8", TextEdgesTest::typeMoreOne, TextEdgesTest::typeMoreEight);
        Doc.row("- `row`: 0 to 1679615; places that are not put are of no meaning",
            TextEdgesTest::typeMoreLeastRow,
            TextEdgesTest::typeMoreGreatestRow,
            TextEdgesTest::typeMorePlacesNotPut);
        Doc.row("Returns how many signs the text has then.", TextEdgesTest::typeMoreCounts);
        Doc.row("Throws `IllegalArgumentException` if a number is out of range",
            TextEdgesTest::typeMoreTooFew,
            TextEdgesTest::typeMoreTooMany,
            TextEdgesTest::typeMoreRowTooSmall,
            TextEdgesTest::typeMoreRowTooLarge,
            TextEdgesTest::typeMoreOutOfRangeIntoFull);
        Doc.row("Throws `IllegalStateException` if the text would have more than 24",
            TextEdgesTest::typeMoreUpToFull,
            TextEdgesTest::typeMoreOverFull);
    }

    private static void typeMoreEachDigit() {
        int place = 1;
        for (int many = 1; many <= 8; many++) {
            for (int digit = 0; digit < 6; digit++) {
                Stemspan x = Check.withText("d");
                x.typeMore(many, digit * place);
                Check.due("digit " + digit + " at place " + (many - 1), Check.textOf(x),
                    "d" + "a".repeat(many - 1) + (char) ('a' + digit));
            }
            place *= 6;
        }
    }

    private static void typeMoreOne() {
        Stemspan x = Check.withText("f");
        Check.due("one sign", x.typeMore(1, 4), 2);
        Check.due("text", Check.textOf(x), "fe");
    }

    private static void typeMoreEight() {
        Stemspan x = Check.withText("f");
        Check.due("eight signs", x.typeMore(8, 279936 + 1), 9);
        Check.due("text", Check.textOf(x), "fbaaaaaab");
    }

    private static void typeMoreLeastRow() {
        Stemspan x = new Stemspan();
        Check.due("one sign of 0", x.typeMore(1, 0), 1);
        Check.due("eight signs of 0", x.typeMore(8, 0), 9);
        Check.due("text", Check.textOf(x), "aaaaaaaaa");
    }

    private static void typeMoreGreatestRow() {
        Stemspan x = new Stemspan();
        Check.due("one sign of the greatest row", x.typeMore(1, 1679615), 1);
        Check.due("eight signs of the greatest row", x.typeMore(8, 1679615), 9);
        Check.due("text", Check.textOf(x), "fffffffff");
    }

    private static void typeMorePlacesNotPut() {
        Stemspan x = new Stemspan();
        x.typeMore(2, 2 + 3 * 6);
        x.typeMore(2, 2 + 3 * 6 + 36);
        x.typeMore(2, 2 + 3 * 6 + 5 * 279936);
        Check.due("text", Check.textOf(x), "cdcdcd");
    }

    private static void typeMoreCounts() {
        for (int many = 1; many <= 8; many++) {
            Check.due("behind none", new Stemspan().typeMore(many, 5), many);
            Check.due("behind three", Check.withText("abc").typeMore(many, 5), 3 + many);
        }
    }

    private static void typeMoreTooFew() {
        Stemspan x = Check.withText("ab");
        for (int many : new int[] {0, -1, -8, LEAST}) {
            Check.dueThrow(many + " signs", x, IllegalArgumentException.class, () -> x.typeMore(many, 0));
        }
    }

    private static void typeMoreTooMany() {
        Stemspan x = Check.withText("ab");
        for (int many : new int[] {9, 10, 22, 23, GREATEST}) {
            Check.dueThrow(many + " signs", x, IllegalArgumentException.class, () -> x.typeMore(many, 0));
        }
    }

    private static void typeMoreRowTooSmall() {
        Stemspan x = Check.withText("ab");
        for (int row : new int[] {-1, -6, -1679615, LEAST}) {
            Check.dueThrow("one sign of " + row, x, IllegalArgumentException.class, () -> x.typeMore(1, row));
            Check.dueThrow("eight signs of " + row, x, IllegalArgumentException.class, () -> x.typeMore(8, row));
        }
    }

    private static void typeMoreRowTooLarge() {
        Stemspan x = Check.withText("ab");
        for (int row : new int[] {1679616, 1679617, 10077696, GREATEST}) {
            Check.dueThrow("one sign of " + row, x, IllegalArgumentException.class, () -> x.typeMore(1, row));
            Check.dueThrow("eight signs of " + row, x, IllegalArgumentException.class, () -> x.typeMore(8, row));
        }
    }

    private static void typeMoreOutOfRangeIntoFull() {
        Stemspan x = Check.withText(FULL);
        int[][] pairs = {{0, 0}, {9, 0}, {-1, 0}, {LEAST, 0}, {GREATEST, 0}, {1, -1}, {1, 1679616}, {8, LEAST}};
        for (int[] pair : pairs) {
            Check.dueThrow(pair[0] + " signs of " + pair[1], x, IllegalArgumentException.class,
                () -> x.typeMore(pair[0], pair[1]));
        }
    }

    private static void typeMoreUpToFull() {
        for (int many = 1; many <= 8; many++) {
            Stemspan x = Check.withText(FULL.substring(0, 24 - many));
            Check.due("up to 24 by " + many, x.typeMore(many, 1679615), 24);
            Check.due("text", Check.textOf(x), FULL.substring(0, 24 - many) + "f".repeat(many));
        }
    }

    private static void typeMoreOverFull() {
        for (int many = 1; many <= 8; many++) {
            int signs = many;
            Stemspan x = Check.withText(FULL.substring(0, 25 - many));
            Check.dueThrow("up to 25 by " + many, x, IllegalStateException.class, () -> x.typeMore(signs, 0));
            Stemspan y = Check.withText(FULL);
            Check.dueThrow("into 24 by " + many, y, IllegalStateException.class, () -> y.typeMore(signs, 0));
        }
    }

    private static void typeAt() {
        Doc.promise(4);
        Doc.row("Puts a sign into the text, ahead of the one at a place, or behind all.",
            TextEdgesTest::typeAtAheadOfAll,
            TextEdgesTest::typeAtAheadOfTheLast,
            TextEdgesTest::typeAtBehindAll,
            TextEdgesTest::typeAtIntoNone);
        Doc.row("- `place`: 0 to how many signs the text has", TextEdgesTest::typeAtEachPlace);
        Doc.row("- `sign`: the sign", TextEdgesTest::typeAtFirstAndLastSign);
        Doc.row("Returns how many signs the text has then.", TextEdgesTest::typeAtCounts);
        Doc.row("Throws `IndexOutOfBoundsException` if the place is out of range",
            TextEdgesTest::typeAtPlaceTooSmall,
            TextEdgesTest::typeAtPlaceTooLarge,
            TextEdgesTest::typeAtNoPlaceForNoSign,
            TextEdgesTest::typeAtNoPlaceInFull);
        Doc.row("Throws `IllegalArgumentException` if it is no sign",
            TextEdgesTest::typeAtNoSign,
            TextEdgesTest::typeAtNoSignIntoFull);
        Doc.row("Throws `IllegalStateException` if the text has 24",
            TextEdgesTest::typeAtIntoFull,
            TextEdgesTest::typeAtTheLast);
    }

    private static void typeAtAheadOfAll() {
        Stemspan x = Check.withText("abc");
        x.typeAt(0, 'f');
        Check.due("text", Check.textOf(x), "fabc");
    }

    private static void typeAtAheadOfTheLast() {
        Stemspan x = Check.withText("abc");
        x.typeAt(2, 'f');
        Check.due("text", Check.textOf(x), "abfc");
    }

    private static void typeAtBehindAll() {
        Stemspan x = Check.withText("abc");
        x.typeAt(3, 'f');
        Check.due("text", Check.textOf(x), "abcf");
    }

    private static void typeAtIntoNone() {
        Stemspan x = new Stemspan();
        Check.due("the first sign", x.typeAt(0, 'f'), 1);
        Check.due("text", Check.textOf(x), "f");
    }

    private static void typeAtEachPlace() {
        String row = FULL.substring(0, 23);
        for (int place = 0; place <= 23; place++) {
            Stemspan x = Check.withText(row);
            x.typeAt(place, 'f');
            Check.due("place " + place, Check.textOf(x), row.substring(0, place) + "f" + row.substring(place));
        }
    }

    private static void typeAtFirstAndLastSign() {
        Stemspan x = Check.withText("c");
        Check.due("a", x.typeAt(0, 'a'), 2);
        Check.due("f", x.typeAt(0, 'f'), 3);
        Check.due("text", Check.textOf(x), "fac");
    }

    private static void typeAtCounts() {
        Stemspan x = new Stemspan();
        for (int i = 1; i <= 24; i++) {
            Check.due("sign " + i, x.typeAt(i / 2, 'd'), i);
        }
    }

    private static void typeAtPlaceTooSmall() {
        Stemspan x = Check.withText("abc");
        Stemspan none = new Stemspan();
        for (int place : new int[] {-1, -2, LEAST}) {
            Check.dueThrow("place " + place, x, IndexOutOfBoundsException.class, () -> x.typeAt(place, 'a'));
            Check.dueThrow("place " + place, none, IndexOutOfBoundsException.class, () -> none.typeAt(place, 'a'));
        }
    }

    private static void typeAtPlaceTooLarge() {
        Stemspan x = Check.withText("abc");
        for (int place : new int[] {4, 5, 23, 24, 25, GREATEST}) {
            Check.dueThrow("place " + place, x, IndexOutOfBoundsException.class, () -> x.typeAt(place, 'a'));
        }
        Stemspan none = new Stemspan();
        Check.dueThrow("place 1 of none", none, IndexOutOfBoundsException.class, () -> none.typeAt(1, 'a'));
    }

    private static void typeAtNoPlaceForNoSign() {
        Stemspan x = Check.withText("abc");
        Check.dueThrow("g at -1", x, IndexOutOfBoundsException.class, () -> x.typeAt(-1, 'g'));
        Check.dueThrow("` at 4", x, IndexOutOfBoundsException.class, () -> x.typeAt(4, '`'));
    }

    private static void typeAtNoPlaceInFull() {
        Stemspan x = Check.withText(FULL);
        Check.dueThrow("a at -1", x, IndexOutOfBoundsException.class, () -> x.typeAt(-1, 'a'));
        Check.dueThrow("a at 25", x, IndexOutOfBoundsException.class, () -> x.typeAt(25, 'a'));
        Check.dueThrow("g at 25", x, IndexOutOfBoundsException.class, () -> x.typeAt(25, 'g'));
    }

    private static void typeAtNoSign() {
        for (char sign : NO_SIGNS) {
            Stemspan x = Check.withText("abc");
            Check.dueThrow("sign " + (int) sign, x, IllegalArgumentException.class, () -> x.typeAt(0, sign));
            Check.dueThrow("sign " + (int) sign, x, IllegalArgumentException.class, () -> x.typeAt(3, sign));
        }
    }

    private static void typeAtNoSignIntoFull() {
        Stemspan x = Check.withText(FULL);
        Check.dueThrow("g at 0", x, IllegalArgumentException.class, () -> x.typeAt(0, 'g'));
        Check.dueThrow("` at 24", x, IllegalArgumentException.class, () -> x.typeAt(24, '`'));
    }

    private static void typeAtIntoFull() {
        Stemspan x = Check.withText(FULL);
        for (int place = 0; place <= 24; place++) {
            int at = place;
            Check.dueThrow("a at " + at, x, IllegalStateException.class, () -> x.typeAt(at, 'a'));
        }
    }

    private static void typeAtTheLast() {
        Stemspan x = Check.withText(FULL.substring(0, 23));
        Check.due("the 24th sign", x.typeAt(23, 'a'), 24);
        Check.due("text", Check.textOf(x), FULL.substring(0, 23) + "a");
    }

    private static void drop() {
        Doc.promise(5);
        Doc.row("Takes the last sign off the text.", TextEdgesTest::dropTheLast);
        Doc.row("Returns how many signs the text has then.", TextEdgesTest::dropFromFullToNone);
        Doc.row("Throws `NoSuchElementException` if it has none", TextEdgesTest::dropFromNone);
    }

    private static void dropTheLast() {
        Stemspan x = Check.withText("fab");
        x.drop();
        Check.due("text", Check.textOf(x), "fa");
        Check.due("words", x.words(), 0);
    }

    private static void dropFromFullToNone() {
        Stemspan x = Check.withText(FULL);
        for (int left = 23; left >= 0; left--) {
            Check.due("left", x.drop(), left);
            Check.due("text", Check.textOf(x), FULL.substring(0, left));
        }
    }

    private static void dropFromNone() {
        Stemspan x = new Stemspan();
        Check.dueThrow("of a new object", x, NoSuchElementException.class, () -> x.drop());
        x.type('a');
        Check.due("the only one", x.drop(), 0);
        Check.dueThrow("once it is gone", x, NoSuchElementException.class, () -> x.drop());
    }

    private static void clip() {
        Doc.promise(6);
        Doc.row("Takes the signs from a place on, up to ahead of another one, out of the text; none if both are the "
            + "same.",
            TextEdgesTest::clipEachPart,
            TextEdgesTest::clipNone);
        Doc.row("- `from`: the first place, from 0", TextEdgesTest::clipFromTheFirst);
        Doc.row("- `to`: the place behind the last one", TextEdgesTest::clipToTheLast);
        Doc.row("Returns how many signs the text has then.", TextEdgesTest::clipCounts);
        Doc.row("Throws `IndexOutOfBoundsException` if from is below 0, or to is less than from, or greater than "
            + "how many signs the text has",
            TextEdgesTest::clipFromTooSmall,
            TextEdgesTest::clipToLessThanFrom,
            TextEdgesTest::clipToTooLarge);
    }

    private static void clipEachPart() {
        for (int from = 0; from <= 24; from++) {
            for (int to = from; to <= 24; to++) {
                Stemspan x = Check.withText(FULL);
                x.clip(from, to);
                Check.due(from + " to " + to, Check.textOf(x), FULL.substring(0, from) + FULL.substring(to));
            }
        }
    }

    private static void clipNone() {
        Stemspan x = Check.withText("abc");
        for (int place = 0; place <= 3; place++) {
            Check.due("none at " + place, x.clip(place, place), 3);
            Check.due("text", Check.textOf(x), "abc");
        }
        Check.due("none of none", new Stemspan().clip(0, 0), 0);
    }

    private static void clipFromTheFirst() {
        Stemspan x = Check.withText("abc");
        Check.due("the first one", x.clip(0, 1), 2);
        Check.due("text", Check.textOf(x), "bc");
        Check.due("all", x.clip(0, 2), 0);
        Check.due("text", Check.textOf(x), "");
    }

    private static void clipToTheLast() {
        Stemspan x = Check.withText("abc");
        Check.due("the last one", x.clip(2, 3), 2);
        Check.due("text", Check.textOf(x), "ab");
    }

    private static void clipCounts() {
        for (int many = 0; many <= 24; many++) {
            Check.due(many + " out of 24", Check.withText(FULL).clip(24 - many, 24), 24 - many);
        }
    }

    private static void clipFromTooSmall() {
        Stemspan x = Check.withText("abc");
        for (int from : new int[] {-1, -2, LEAST}) {
            for (int to : new int[] {0, 1, 3}) {
                Check.dueThrow(from + " to " + to, x, IndexOutOfBoundsException.class, () -> x.clip(from, to));
            }
            Check.dueThrow(from + " to itself", x, IndexOutOfBoundsException.class, () -> x.clip(from, from));
        }
    }

    private static void clipToLessThanFrom() {
        Stemspan x = Check.withText("abc");
        int[][] pairs = {{1, 0}, {2, 1}, {3, 2}, {3, 0}, {4, 3}, {0, -1}, {3, -1}, {0, LEAST}, {GREATEST, 0},
            {GREATEST, LEAST}};
        for (int[] pair : pairs) {
            Check.dueThrow(pair[0] + " to " + pair[1], x, IndexOutOfBoundsException.class,
                () -> x.clip(pair[0], pair[1]));
        }
    }

    private static void clipToTooLarge() {
        Stemspan x = Check.withText("abc");
        int[][] pairs = {{0, 4}, {3, 4}, {4, 4}, {2, 24}, {0, GREATEST}, {3, GREATEST}, {GREATEST, GREATEST},
            {LEAST, GREATEST}};
        for (int[] pair : pairs) {
            Check.dueThrow(pair[0] + " to " + pair[1], x, IndexOutOfBoundsException.class,
                () -> x.clip(pair[0], pair[1]));
        }
        Stemspan none = new Stemspan();
        Check.dueThrow("0 to 1 of none", none, IndexOutOfBoundsException.class, () -> none.clip(0, 1));
        Check.dueThrow("1 to 1 of none", none, IndexOutOfBoundsException.class, () -> none.clip(1, 1));
        Stemspan full = Check.withText(FULL);
        Check.dueThrow("24 to 25 of 24", full, IndexOutOfBoundsException.class, () -> full.clip(24, 25));
    }

    private static void wipe() {
        Doc.promise(7);
        Doc.row("Makes the text empty.", TextEdgesTest::wipeLeavesNoSign, TextEdgesTest::wipeLeavesWordsAndCodes);
        Doc.row("Returns how many signs it had.",
            TextEdgesTest::wipeNone,
            TextEdgesTest::wipeOne,
            TextEdgesTest::wipeFull);
    }

    private static void wipeLeavesNoSign() {
        Stemspan x = Check.withText(FULL);
        x.wipe();
        Check.due("text", Check.textOf(x), "");
        Check.dueThrow("no sign at 0", x, IndexOutOfBoundsException.class, () -> x.signAt(0));
        Check.due("there is room again", x.typeMore(8, 0), 8);
    }

    private static void wipeLeavesWordsAndCodes() {
        Stemspan x = Check.withText("ab");
        x.put(3);
        x.code('c');
        x.wipe();
        Check.due("words", Check.wordsOf(x), "ab=3");
        Check.setText(x, "c");
        Check.due("write", x.write(), 2);
    }

    private static void wipeNone() {
        Check.due("none", new Stemspan().wipe(), 0);
    }

    private static void wipeOne() {
        Check.due("one", Check.withText("f").wipe(), 1);
    }

    private static void wipeFull() {
        Check.due("24", Check.withText(FULL).wipe(), 24);
    }

    private static void turn() {
        Doc.promise(8);
        Doc.row("Turns the text round: the last sign becomes the first one, and so on.",
            TextEdgesTest::turnFull,
            TextEdgesTest::turnOdd,
            TextEdgesTest::turnNoneAndOne);
        Doc.row("Returns whether it is the same row as it was.",
            TextEdgesTest::turnAnswersTheSame,
            TextEdgesTest::turnAnswersAnother);
    }

    private static void turnFull() {
        Stemspan x = Check.withText(FULL);
        x.turn();
        Check.due("text", Check.textOf(x), "fedcbafedcbafedcbafedcba");
    }

    private static void turnOdd() {
        Stemspan x = Check.withText("abcde");
        x.turn();
        Check.due("text", Check.textOf(x), "edcba");
    }

    private static void turnNoneAndOne() {
        Stemspan x = new Stemspan();
        x.turn();
        Check.due("none", Check.textOf(x), "");
        x.type('f');
        x.turn();
        Check.due("one", Check.textOf(x), "f");
    }

    private static void turnAnswersTheSame() {
        String[] rows = {"", "f", "ff", "aba", "abba", "abcdeffedcba", "aaaaaaaaaaabaaaaaaaaaaa",
            "abcdefabcdeffedcbafedcba"};
        for (String row : rows) {
            Stemspan x = Check.withText(row);
            Check.due(row, x.turn(), true);
            Check.due("text", Check.textOf(x), row);
        }
    }

    private static void turnAnswersAnother() {
        // Only the outermost two, or the innermost two, or two of 24 signs are unlike.
        for (String row : new String[] {"ab", "abb", "acdcb", "abcaba", "acdebfcedca", "cabaaaaaaaaaaaaaaaaaabad",
            "aaaaaaaaaaabaaaaaaaaaaaa"}) {
            Stemspan x = Check.withText(row);
            Check.due(row, x.turn(), false);
            Check.due("text", Check.textOf(x), new StringBuilder(row).reverse().toString());
        }
    }

    private static void signAt() {
        Doc.promise(9);
        Doc.row("Returns a sign of the text.", TextEdgesTest::signAtLeavesText);
        Doc.row("- `place`: its place", TextEdgesTest::signAtFirstAndLast);
        Doc.row("Returns the sign.", TextEdgesTest::signAtEachPlace);
        Doc.row("Throws `IndexOutOfBoundsException` if there is no such place",
            TextEdgesTest::signAtTooSmall,
            TextEdgesTest::signAtTooLarge,
            TextEdgesTest::signAtOfNone);
    }

    private static void signAtLeavesText() {
        Stemspan x = Check.withText("fa");
        long before = x.checksum();
        x.signAt(1);
        Check.due("checksum", x.checksum(), before);
    }

    private static void signAtFirstAndLast() {
        Stemspan x = Check.withText("fca");
        Check.due("first", x.signAt(0), 'f');
        Check.due("last", x.signAt(2), 'a');
    }

    private static void signAtEachPlace() {
        Stemspan x = Check.withText(FULL);
        for (int place = 0; place < 24; place++) {
            Check.due("place " + place, x.signAt(place), FULL.charAt(place));
        }
    }

    private static void signAtTooSmall() {
        Stemspan x = Check.withText("abc");
        for (int place : new int[] {-1, -2, LEAST}) {
            Check.dueThrow("place " + place, x, IndexOutOfBoundsException.class, () -> x.signAt(place));
        }
    }

    private static void signAtTooLarge() {
        // Where signs stood before there is none.
        Stemspan x = Check.withText(FULL);
        Check.dueThrow("place 24 of 24", x, IndexOutOfBoundsException.class, () -> x.signAt(24));
        x.clip(3, 24);
        for (int place : new int[] {3, 4, 23, 24, GREATEST}) {
            Check.dueThrow("place " + place, x, IndexOutOfBoundsException.class, () -> x.signAt(place));
        }
    }

    private static void signAtOfNone() {
        Stemspan x = new Stemspan();
        Check.dueThrow("place 0", x, IndexOutOfBoundsException.class, () -> x.signAt(0));
    }
}
