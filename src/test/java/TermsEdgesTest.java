import java.util.NoSuchElementException;

/** The edges that the document's sentences 'What it is' and 'Terms' name, sentence by sentence. */
public final class TermsEdgesTest {
    private static final String FULL = "abcdefabcdefabcdefabcdef";
    private static final String[] ORDERLY = {"a", "ba", "bb", "bca", "bcc", "f"};

    public static void main(String[] args) {
        whatItIs();
        Doc.sentences("Terms");
        theorem();
        rows();
        text();
        words();
        cuts();
        codes();
        exceptions();
        Doc.close();
        Check.end();
    }

    private static Stemspan with(String text, String... entries) {
        Stemspan x = new Stemspan();
        Check.putAll(x, entries);
        Check.setText(x, text);
        return x;
    }

    private static void whatItIs() {
        Doc.sentences("What it is");
        Doc.noBoundary("Words by their beginnings, over the JDK's own TreeMap with text keys and StringBuilder: "
            + "words in order, with numbers, asked by what they begin with; a text cut into words; and words "
            + "written anew by codes.");
        Doc.row("An object is used for at most 512 calls after it has been made; what later calls answer is free.",
            TermsEdgesTest::the512thCallAnswers,
            TermsEdgesTest::the512thCallAnswersBehindRefusedOnes);
    }

    private static void the512thCallAnswers() {
        Stemspan x = new Stemspan();
        for (int call = 1; call <= 509; call += 4) {
            Check.due("type, call " + call, x.type('f'), 1);
            Check.due("put", x.put(call), call == 1 ? -1 : call - 4);
            Check.due("isTrue", x.isTrue(), true);
            Check.due("wipe, call " + (call + 3), x.wipe(), 1);
        }
        Stemspan y = new Stemspan();
        for (int call = 1; call <= 511; call++) {
            Check.due("call " + call, call % 2 == 1 ? y.type('e') : y.drop(), call % 2);
        }
        Check.due("call 512", y.signAt(0), 'e');
    }

    private static void the512thCallAnswersBehindRefusedOnes() {
        Stemspan x = new Stemspan();
        for (int call = 1; call <= 511; call++) {
            boolean refused = false;
            try {
                x.drop();
            } catch (NoSuchElementException e) {
                refused = true;
            }
            Check.due("call " + call + " is refused", refused, true);
        }
        Check.due("call 512", x.checksum(), new Stemspan().checksum());
    }

    private static void theorem() {
        Doc.noBoundary("The class is not thread-safe.");
        Doc.noBoundary("Theorem.");
        Doc.row("All words that begin with a row stand side by side in the order, from the least word that is not "
            + "less than the row on.", TermsEdgesTest::wordsStandSideBySide);
        Doc.row("The longest word with which a row begins is the greatest word that is not greater than the row, "
            + "or, if the row does not begin with that one, the longest word with which what both have in common "
            + "begins; there is none, if no word is not greater than the row, or both have nothing in common.",
            TermsEdgesTest::longestIsTheGreatestNotGreater,
            TermsEdgesTest::longestIsOfWhatBothHaveInCommon,
            TermsEdgesTest::longestNoneIfNoneIsNotGreater,
            TermsEdgesTest::longestNoneIfNothingInCommon);
        Doc.row("With no word a row has more signs in common than with the greatest word that is not greater, or "
            + "with the least one that is not less; and no two words have more in common than some two that are "
            + "next to each other in the order.",
            TermsEdgesTest::sharedWithFloorOrCeilingOnly,
            TermsEdgesTest::twinIsOfNeighbours);
        Doc.row("A row with signs can be cut in as many ways as there are, for each word with which it begins, for "
            + "what is left behind that word, all together.", TermsEdgesTest::waysAreOfWhatIsLeft);
        Doc.row("If each end of each word is a word, and there is a way to cut a row, it is cut wholly by the "
            + "longest each time, and into no more pieces than in any way.",
            TermsEdgesTest::longestIsFewestIfEndsAreWords);
        Doc.row("If the codes are orderly, of two words that are written the one is less than the other just if it "
            + "was, the one begins with the other just if it did, and no two rows are written alike.",
            TermsEdgesTest::writtenWordsKeepOrderAndBeginnings);
    }

    private static void wordsStandSideBySide() {
        for (String text : new String[] {"", "b", "bc", "bca", "c", "f"}) {
            Stemspan x = with(text, "a=0", "b=1", "bc=2", "bcd=3", "bd=4", "d=5", "f=6");
            int first = x.rank();
            int many = x.begun();
            for (int i = 0; i < many; i++) {
                Check.setText(x, text);
                Check.due("number of one that begins with " + text, x.begunAt(i), first + i);
            }
        }
    }

    private static void longestIsTheGreatestNotGreater() {
        Stemspan x = with("abcf", "a=1", "ab=2", "abc=3", "abd=4");
        int longest = x.longest(0);
        x.near('f');
        Check.due("the floor", Check.textOf(x), "abc");
        Check.due("its size", longest, 3);
    }

    private static void longestIsOfWhatBothHaveInCommon() {
        Stemspan x = with("abf", "a=1", "ab=2", "abca=3", "abe=4");
        Check.due("not the floor abe", x.longest(0), 2);
        Stemspan y = with("aff", "a=1", "ab=2", "abca=3", "ae=4");
        Check.due("not the floor ae", y.longest(0), 1);
    }

    private static void longestNoneIfNoneIsNotGreater() {
        Stemspan x = with("ab", "abc=1", "b=2");
        Check.dueThrow("no floor", x, NoSuchElementException.class, () -> x.near('f'));
        Check.due("longest", x.longest(0), 0);
    }

    private static void longestNoneIfNothingInCommon() {
        Stemspan x = with("ba", "a=1", "ab=2", "c=3");
        Check.due("longest", x.longest(0), 0);
        Check.due("the floor", x.near('f'), 2);
    }

    private static void sharedWithFloorOrCeilingOnly() {
        Check.due("with the floor", with("bcd", "bcc=1", "bf=2").shared(), 2);
        Check.due("with the ceiling", with("bcd", "ba=1", "bce=2").shared(), 2);
        Check.due("there is no floor", with("a", "ab=1").shared(), 1);
        Check.due("there is no ceiling", with("abc", "ab=1").shared(), 2);
    }

    private static void twinIsOfNeighbours() {
        Check.due("the first two", with("", "aba=1", "abf=2", "c=3").twin(), 2);
        Check.due("the last two", with("", "a=1", "cba=2", "cbf=3").twin(), 2);
    }

    private static void waysAreOfWhatIsLeft() {
        Stemspan x = with("aabaa", "a=1", "aa=2", "aab=3", "ba=4");
        long all = 0;
        for (int size = 1; size <= 3; size++) {
            Check.setText(x, "aabaa".substring(size));
            all += x.cuts();
        }
        Check.setText(x, "aabaa");
        Check.due("ways", x.cuts(), all);
        Check.due("ways by hand", x.cuts(), 4);
    }

    private static void longestIsFewestIfEndsAreWords() {
        for (String text : new String[] {"", "a", "cba", "cbacbaba", "ba".repeat(12), "cba".repeat(8)}) {
            Stemspan x = with(text, "a=1", "ba=2", "cba=3");
            Check.due("pieces of " + text, x.pieces(), x.fewest());
            Check.due("there is a way for " + text, x.fewest() >= 0, true);
        }
    }

    private static void writtenWordsKeepOrderAndBeginnings() {
        Stemspan x = new Stemspan();
        Check.setCodes(x, "aa", "ab", "ac", "ad", "ae", "af");
        Check.putAll(x, "a=0", "ab=1", "abf=2", "b=3", "fe=4", "ff=5");
        int begun = withText(x, "a").begun();
        x.writeAll();
        Check.due("words", Check.wordsOf(x), "aa=0 aaab=1 aaabaf=2 ab=3 afae=4 afaf=5");
        Check.due("as many begin so", withText(x, "aa").begun(), begun);
    }

    private static Stemspan withText(Stemspan x, String text) {
        Check.setText(x, text);
        return x;
    }

    private static void rows() {
        Doc.noBoundary("Part 1, rows.");
        Doc.row("Signs are a to f.", TermsEdgesTest::signsAreAToF);
        Doc.row("A row is signs, one behind the other, perhaps none.", TermsEdgesTest::aRowWithoutSigns);
        Doc.row("Of two unlike rows that is less which has the less sign at the first place where they differ; if "
            + "there is no such place, the shorter one.",
            TermsEdgesTest::lessAtTheFirstPlace,
            TermsEdgesTest::lessAtALaterPlace,
            TermsEdgesTest::lessIsTheShorter,
            TermsEdgesTest::alikeIsNotLess);
        Doc.row("A row begins with another one if that one's signs are its first ones, in their order; each row "
            + "begins with itself, and with the row without signs.",
            TermsEdgesTest::beginsWithFirstSigns,
            TermsEdgesTest::beginsWithItself,
            TermsEdgesTest::beginsWithNoSigns);
        Doc.row("An end of a row is its last signs, in their order, at least one, the row itself too.",
            TermsEdgesTest::endsAreOfOneSignAtLeast);
        Doc.row("What two rows have in common is a row, too: their first signs, as long as both have the same ones.",
            TermsEdgesTest::inCommonIsTheFirstSignsOnly,
            TermsEdgesTest::inCommonIsAllOfTheShorter,
            TermsEdgesTest::inCommonIsNothing);
    }

    private static void signsAreAToF() {
        for (int sign = 0; sign <= 65535; sign++) {
            boolean due = sign >= 97 && sign <= 102;
            Check.due("type " + sign, typed(new Stemspan(), (char) sign), due);
            Check.due("typeAt " + sign, typedAt(new Stemspan(), (char) sign), due);
            Check.due("code " + sign, coded(Check.withText("a"), (char) sign), due);
        }
    }

    private static boolean typed(Stemspan x, char sign) {
        try {
            return x.type(sign) == 1;
        } catch (IllegalArgumentException e) {
            return false;
        }
    }

    private static boolean typedAt(Stemspan x, char sign) {
        try {
            return x.typeAt(0, sign) == 1;
        } catch (IllegalArgumentException e) {
            return false;
        }
    }

    private static boolean coded(Stemspan x, char sign) {
        try {
            return x.code(sign) == 1;
        } catch (IllegalArgumentException e) {
            return false;
        }
    }

    private static void aRowWithoutSigns() {
        Stemspan x = with("", "a=1");
        Check.due("turn", x.turn(), true);
        Check.due("rank", x.rank(), 0);
        Check.due("begun", x.begun(), 1);
        Check.due("longest", x.longest(0), 0);
        Check.due("shared", x.shared(), 0);
        Check.due("pieces", x.pieces(), 0);
        Check.due("write", x.write(), 0);
        Check.due("read", x.read(), 0);
    }

    private static void lessDue(String less, String greater) {
        Check.due(less + " is less than " + greater, with(greater, less + "=1").rank(), 1);
        Check.due(greater + " is not less than " + less, with(less, greater + "=1").rank(), 0);
    }

    private static void lessAtTheFirstPlace() {
        lessDue("a", "b");
        lessDue("e", "f");
        lessDue("afffffffff", "ba");
        lessDue("af", "baaaaaaaaa");
    }

    private static void lessAtALaterPlace() {
        lessDue("abcdefabca", "abcdefabcb");
        lessDue("abaf", "abba");
    }

    private static void lessIsTheShorter() {
        lessDue("a", "aa");
        lessDue("abcdefabc", "abcdefabca");
        Check.due("no signs are less", with("", "a=1").rank(), 0);
    }

    private static void alikeIsNotLess() {
        Check.due("one sign", with("a", "a=1").rank(), 0);
        Check.due("ten signs", with("abcdefabcd", "abcdefabcd=1").rank(), 0);
    }

    private static void beginsWithFirstSigns() {
        Check.due("its first ones", with("ab", "abc=1").begun(), 1);
        Check.due("its last ones", with("bc", "abc=1").begun(), 0);
        Check.due("another order", with("ba", "abc=1").begun(), 0);
        Check.due("one of two unlike", with("ac", "abc=1").begun(), 0);
    }

    private static void beginsWithItself() {
        Check.due("one sign", with("a", "a=1").begun(), 1);
        Check.due("ten signs", with("abcdefabcd", "abcdefabcd=1").begun(), 1);
        Check.due("and not with one more", with("aa", "a=1").begun(), 0);
    }

    private static void beginsWithNoSigns() {
        Check.due("one sign", with("", "a=1").begun(), 1);
        Check.due("ten signs", with("", "abcdefabcd=1").begun(), 1);
    }

    private static void endsAreOfOneSignAtLeast() {
        // Here c, an end of one sign, is no word, so the longest each time may leave something.
        Stemspan x = with("abc", "a=1", "ab=2", "b=3", "bc=4");
        Check.due("pieces", x.pieces(), -3);
        Check.due("fewest", x.fewest(), 2);
        Check.due("isTrue", x.isTrue(), true);
        Check.putAll(x, "c=5");
        Check.setText(x, "abc");
        Check.due("pieces, now that it is a word", x.pieces(), 2);
        Check.due("isTrue, now that it is a word", x.isTrue(), true);
    }

    private static void inCommonIsTheFirstSignsOnly() {
        Check.due("same signs behind", with("abcf", "abef=1").shared(), 2);
        Check.due("same signs behind, two words", with("", "abcf=1", "abef=2").twin(), 2);
    }

    private static void inCommonIsAllOfTheShorter() {
        Check.due("the text", with("ab", "abc=1").shared(), 2);
        Check.due("the word", with("abc", "ab=1").shared(), 2);
        Check.due("one word", with("", "abc=1", "ab=2").twin(), 2);
    }

    private static void inCommonIsNothing() {
        Check.due("text and word", with("ab", "ba=1").shared(), 0);
        Check.due("two words", with("", "ab=1", "ba=2").twin(), 0);
    }

    private static void text() {
        Doc.row("Part 2, the text is a row of at most 24 signs, without signs at first.",
            TermsEdgesTest::textStartsWithoutSigns,
            TermsEdgesTest::textHasTwentyFourByEachCall,
            TermsEdgesTest::textHasNoMoreByAnyCall);
        Doc.row("Places are numbered from 0.", TermsEdgesTest::placesFromZero);
    }

    private static void textStartsWithoutSigns() {
        Check.due("size", new Stemspan().clip(0, 0), 0);
    }

    private static void textHasTwentyFourByEachCall() {
        Check.due("type", Check.withText(FULL.substring(1)).type('a'), 24);
        Check.due("typeAt", Check.withText(FULL.substring(1)).typeAt(0, 'a'), 24);
        Check.due("typeMore", Check.withText(FULL.substring(8)).typeMore(8, 0), 24);
        Stemspan x = new Stemspan();
        Check.setCodes(x, "aa");
        Check.setText(x, "a".repeat(12));
        Check.due("write", x.write(), 24);
    }

    private static void textHasNoMoreByAnyCall() {
        Stemspan x = Check.withText(FULL);
        Check.dueThrow("type", x, IllegalStateException.class, () -> x.type('a'));
        Check.dueThrow("typeAt", x, IllegalStateException.class, () -> x.typeAt(0, 'a'));
        Check.dueThrow("typeMore", x, IllegalStateException.class, () -> x.typeMore(1, 0));
        Check.setCodes(x, "aa");
        Check.setText(x, FULL);
        Check.dueThrow("write", x, IllegalStateException.class, () -> x.write());
    }

    private static void placesFromZero() {
        Stemspan x = with("abc", "ab=1");
        Check.due("signAt", x.signAt(0), 'a');
        Check.due("longest", x.longest(0), 2);
        Check.due("pieces, left from the third sign", x.pieces(), -1 - 2);
        Check.due("clip", x.clip(0, 1), 2);
        Check.due("typeAt", x.typeAt(0, 'f'), 3);
        Check.due("text", Check.textOf(x), "fbc");
    }

    private static void words() {
        Doc.noBoundary("Part 3, words.");
        Doc.row("A word is a row of 1 to 10 signs; each has a number, 0 to 999.",
            TermsEdgesTest::wordsOfOneAndTenSigns,
            TermsEdgesTest::wordsOfNoneAndElevenSigns,
            TermsEdgesTest::numbersOfZeroAndMost,
            TermsEdgesTest::numbersOutOfRange);
        Doc.row("There are at most 24 words, none at first.",
            TermsEdgesTest::noWordsAtFirst,
            TermsEdgesTest::twentyFourWordsAndNoMore);
        Doc.row("The rank of a word is how many words are less than it.", TermsEdgesTest::rankOfFirstAndLast);
    }

    private static void wordsOfOneAndTenSigns() {
        Check.due("one", Check.withText("a").put(1), -1);
        Check.due("ten", Check.withText("abcdefabcd").put(1), -1);
        Stemspan x = new Stemspan();
        Check.setCodes(x, ORDERLY);
        Check.putAll(x, "bbbbb=1");
        Check.due("ten as written", x.writeAll(), 1);
    }

    private static void wordsOfNoneAndElevenSigns() {
        Stemspan x = new Stemspan();
        Check.dueThrow("none", x, UnsupportedOperationException.class, () -> x.put(1));
        Stemspan y = Check.withText("abcdefabcde");
        Check.dueThrow("eleven", y, UnsupportedOperationException.class, () -> y.put(1));
        Stemspan z = new Stemspan();
        Check.setCodes(z, ORDERLY);
        Check.putAll(z, "abbbbb=1");
        Check.dueThrow("eleven as written", z, IllegalStateException.class, () -> z.writeAll());
    }

    private static void numbersOfZeroAndMost() {
        Stemspan x = Check.withText("a");
        x.put(0);
        Check.due("0", x.put(999), 0);
        Check.due("999", x.number(), 999);
    }

    private static void numbersOutOfRange() {
        Stemspan x = Check.withText("a");
        Check.dueThrow("-1", x, IllegalArgumentException.class, () -> x.put(-1));
        Check.dueThrow("1000", x, IllegalArgumentException.class, () -> x.put(1000));
    }

    private static void noWordsAtFirst() {
        Check.due("words", new Stemspan().words(), 0);
    }

    private static void twentyFourWordsAndNoMore() {
        Stemspan x = new Stemspan();
        Check.fill(x, 24);
        Check.due("words", x.words(), 24);
        Check.setText(x, "f");
        Check.dueThrow("one more", x, IllegalStateException.class, () -> x.put(1));
    }

    private static void rankOfFirstAndLast() {
        Stemspan x = new Stemspan();
        Check.fill(x, 24);
        x.word(0);
        Check.due("the first one", x.rank(), 0);
        Check.due("text", Check.textOf(x), "aa");
        x.word(23);
        Check.due("the last one", x.rank(), 23);
        Check.due("text", Check.textOf(x), "df");
    }

    private static void cuts() {
        Doc.noBoundary("Part 4, cuts.");
        Doc.row("A way to cut a row is words, one behind the other, that make it up, the same one perhaps several "
            + "times; these are its pieces.",
            TermsEdgesTest::theSameWordSeveralTimes,
            TermsEdgesTest::waysMakeUpTheWholeRow);
        Doc.row("A row without signs has one way, of no pieces.", TermsEdgesTest::noSignsHaveOneWay);
        Doc.row("By the longest each time a row is cut so: its first piece is the longest word with which it "
            + "begins, the next one the longest word with which what is left begins, and so on; it ends where "
            + "nothing is left, or where what is left begins with no word.",
            TermsEdgesTest::longestEndsWhereNothingIsLeft,
            TermsEdgesTest::longestEndsWhereNoWordBegins);
    }

    private static void theSameWordSeveralTimes() {
        Stemspan x = with("ab".repeat(12), "ab=1");
        Check.due("cuts", x.cuts(), 1);
        Check.due("fewest", x.fewest(), 12);
        Check.due("pieces", x.pieces(), 12);
    }

    private static void waysMakeUpTheWholeRow() {
        Check.due("the last sign is left", with("aab", "a=1", "aa=2").cuts(), 0);
        Check.due("the first sign is left", with("baa", "a=1", "aa=2").cuts(), 0);
        Check.due("a sign between is left", with("aba", "a=1", "aa=2").cuts(), 0);
    }

    private static void noSignsHaveOneWay() {
        Stemspan x = new Stemspan();
        Check.due("cuts", x.cuts(), 1);
        Check.due("fewest", x.fewest(), 0);
        Check.due("pieces", x.pieces(), 0);
        Check.dueThrow("piece", x, NoSuchElementException.class, () -> x.piece(0));
    }

    private static void longestEndsWhereNothingIsLeft() {
        Stemspan x = with("abaabc", "a=1", "ab=2", "abc=3");
        Check.due("pieces", x.pieces(), 3);
        Check.due("the last piece", x.piece(2), 3);
        Check.dueThrow("no more", x, NoSuchElementException.class, () -> x.piece(3));
    }

    private static void longestEndsWhereNoWordBegins() {
        Stemspan x = with("abacab", "a=1", "ab=2");
        Check.due("left from the fourth sign", x.pieces(), -4);
        Check.due("the last piece", x.piece(1), 1);
        Check.dueThrow("no more", x, NoSuchElementException.class, () -> x.piece(2));
    }

    private static void codes() {
        Doc.noBoundary("Part 5, codes.");
        Doc.row("Each sign has a code, a row of 1 to 3 signs, at first the sign itself.",
            TermsEdgesTest::codesOfOneAndThreeSigns,
            TermsEdgesTest::codesOfNoneAndFourSigns,
            TermsEdgesTest::codesAtFirst);
        Doc.row("Codes are orderly if the code of each sign is less than that of each greater sign, and none begins "
            + "with the code of another sign.",
            TermsEdgesTest::orderlyCodes,
            TermsEdgesTest::codesInAnotherOrder,
            TermsEdgesTest::codesAlike,
            TermsEdgesTest::codesThatBeginWithOthers);
        Doc.row("A row is written by putting for each of its signs that sign's code.",
            TermsEdgesTest::writtenSignBySign);
    }

    private static void codesOfOneAndThreeSigns() {
        Check.due("one", Check.withText("f").code('a'), 1);
        Stemspan x = Check.withText("fff");
        x.code('a');
        Check.due("three", x.code('a'), 3);
    }

    private static void codesOfNoneAndFourSigns() {
        Stemspan x = new Stemspan();
        Check.dueThrow("none", x, UnsupportedOperationException.class, () -> x.code('a'));
        Stemspan y = Check.withText("abcd");
        Check.dueThrow("four", y, UnsupportedOperationException.class, () -> y.code('a'));
    }

    private static void codesAtFirst() {
        Stemspan x = Check.withText(FULL);
        Check.due("write", x.write(), 24);
        Check.due("text", Check.textOf(x), FULL);
    }

    private static void orderlyDue(boolean want, String... codes) {
        Stemspan x = new Stemspan();
        Check.setCodes(x, codes);
        boolean found = true;
        try {
            x.read();
        } catch (UnsupportedOperationException e) {
            found = false;
        }
        Check.due("orderly: " + String.join(" ", codes), found, want);
        found = true;
        try {
            x.writeAll();
        } catch (UnsupportedOperationException e) {
            found = false;
        }
        Check.due("orderly for writeAll: " + String.join(" ", codes), found, want);
    }

    private static void orderlyCodes() {
        orderlyDue(true, "a", "b", "c", "d", "e", "f");
        orderlyDue(true, "aaa", "aab", "aac", "aad", "aae", "aaf");
        orderlyDue(true, "a", "ba", "bb", "bca", "bcc", "f");
        orderlyDue(true, "aff", "b", "ca", "cb", "cc", "cda");
        orderlyDue(true, "faa", "fb", "fc", "fd", "fe", "ff");
    }

    private static void codesInAnotherOrder() {
        String[] signs = {"a", "b", "c", "d", "e", "f"};
        for (int one = 0; one < 6; one++) {
            for (int other = one + 1; other < 6; other++) {
                String[] codes = signs.clone();
                codes[one] = signs[other];
                codes[other] = signs[one];
                orderlyDue(false, codes);
            }
        }
        orderlyDue(false, "ab", "aa", "b", "c", "d", "e");
        orderlyDue(false, "a", "b", "c", "d", "ef", "ee");
    }

    private static void codesAlike() {
        String[] signs = {"a", "b", "c", "d", "e", "f"};
        for (int one = 0; one < 5; one++) {
            String[] codes = signs.clone();
            codes[one + 1] = signs[one];
            orderlyDue(false, codes);
        }
        orderlyDue(false, "a", "a", "a", "a", "a", "a");
    }

    private static void codesThatBeginWithOthers() {
        String[] signs = {"a", "b", "c", "d", "e", "f"};
        for (int one = 0; one < 5; one++) {
            String[] codes = signs.clone();
            codes[one + 1] = signs[one] + "a";
            orderlyDue(false, codes);
            codes[one + 1] = signs[one] + "ff";
            orderlyDue(false, codes);
        }
        // The code of a greater sign stands first in the order, and others begin with it.
        orderlyDue(false, "ab", "b", "c", "d", "e", "a");
        orderlyDue(false, "aa", "aab", "b", "c", "d", "e");
        orderlyDue(false, "aa", "ab", "ac", "ad", "ada", "fff");
        orderlyDue(false, "a", "aa", "ab", "ac", "ad", "ae");
    }

    private static void writtenSignBySign() {
        Stemspan x = new Stemspan();
        Check.setCodes(x, "b", "ca", "a", "ddd", "e", "f");
        Check.setText(x, "abcda");
        Check.due("write", x.write(), 8);
        Check.due("each sign once", Check.textOf(x), "bcaadddb");
    }

    private static void exceptions() {
        Doc.noBoundary("Exceptions.");
        Doc.row("A method that throws an exception changes nothing.",
            TermsEdgesTest::refusedCallsOnAFullObject,
            TermsEdgesTest::refusedCallsOnANewObject);
        Doc.row("If several exceptions apply, the one that is documented first is thrown.",
            TermsEdgesTest::theFirstOfSeveralOfTheText,
            TermsEdgesTest::theFirstOfSeveralOfWordsAndCodes);
        Doc.noBoundary("Ahead of the calls `type`, `typeMore`, `typeAt`, `drop`, `clip`, `wipe`, `turn`, `signAt` "
            + "the interface says: the text.");
        Doc.noBoundary("Ahead of the calls `put`, `take`, `number`, `words`, `rank`, `word`, `near` the interface "
            + "says: words.");
        Doc.noBoundary("Ahead of the calls `begun`, `begunAt`, `sum`, `gone`, `longest`, `shared`, `twin` the "
            + "interface says: beginnings.");
        Doc.noBoundary("Ahead of the calls `pieces`, `piece`, `cuts`, `fewest` the interface says: cuts.");
        Doc.noBoundary("Ahead of the calls `code`, `write`, `read`, `writeAll` the interface says: codes.");
        Doc.noBoundary("Ahead of the calls `isTrue`, `checksum` the interface says: all.");
    }

    /** A full text, a full list, and codes that are not orderly: all must stay as they are. */
    private static void refusedCallsOnAFullObject() {
        Stemspan x = new Stemspan();
        Check.setCodes(x, "fff", "a", "a", "aa", "b", "a");
        Check.fill(x, 24);
        Check.setText(x, "e".repeat(24));
        String words = Check.wordsOf(x);
        Class<?> state = IllegalStateException.class;
        Class<?> unsupported = UnsupportedOperationException.class;
        Class<?> none = NoSuchElementException.class;
        Class<?> bounds = IndexOutOfBoundsException.class;
        Check.dueThrow("type", x, state, () -> x.type('a'));
        Check.dueThrow("typeMore", x, state, () -> x.typeMore(8, 0));
        Check.dueThrow("typeAt", x, state, () -> x.typeAt(12, 'a'));
        Check.dueThrow("clip", x, bounds, () -> x.clip(12, 25));
        Check.dueThrow("signAt", x, bounds, () -> x.signAt(24));
        Check.dueThrow("put", x, unsupported, () -> x.put(1));
        Check.dueThrow("take", x, none, () -> x.take());
        Check.dueThrow("number", x, none, () -> x.number());
        Check.dueThrow("word", x, bounds, () -> x.word(24));
        Check.dueThrow("near", x, none, () -> x.near('h'));
        Check.dueThrow("begunAt", x, none, () -> x.begunAt(0));
        Check.dueThrow("longest", x, bounds, () -> x.longest(25));
        Check.dueThrow("piece", x, none, () -> x.piece(0));
        Check.dueThrow("code", x, unsupported, () -> x.code('a'));
        Check.dueThrow("read", x, unsupported, () -> x.read());
        Check.dueThrow("writeAll", x, unsupported, () -> x.writeAll());
        Check.due("text", Check.textOf(x), "e".repeat(24));
        Check.due("words", Check.wordsOf(x), words);
        Check.setText(x, "a".repeat(9));
        Check.dueThrow("write", x, state, () -> x.write());
        Check.setText(x, "abcdef");
        x.write();
        Check.due("codes", Check.textOf(x), "fffaaaaba");
    }

    private static void refusedCallsOnANewObject() {
        Stemspan x = new Stemspan();
        Check.dueThrow("type", x, IllegalArgumentException.class, () -> x.type('g'));
        Check.dueThrow("typeMore", x, IllegalArgumentException.class, () -> x.typeMore(0, 0));
        Check.dueThrow("typeAt", x, IndexOutOfBoundsException.class, () -> x.typeAt(1, 'a'));
        Check.dueThrow("drop", x, NoSuchElementException.class, () -> x.drop());
        Check.dueThrow("clip", x, IndexOutOfBoundsException.class, () -> x.clip(0, 1));
        Check.dueThrow("signAt", x, IndexOutOfBoundsException.class, () -> x.signAt(0));
        Check.dueThrow("put", x, UnsupportedOperationException.class, () -> x.put(1));
        Check.dueThrow("take", x, NoSuchElementException.class, () -> x.take());
        Check.dueThrow("number", x, NoSuchElementException.class, () -> x.number());
        Check.dueThrow("word", x, IndexOutOfBoundsException.class, () -> x.word(0));
        Check.dueThrow("near", x, NoSuchElementException.class, () -> x.near('f'));
        Check.dueThrow("begunAt", x, NoSuchElementException.class, () -> x.begunAt(0));
        Check.dueThrow("longest", x, IndexOutOfBoundsException.class, () -> x.longest(1));
        Check.dueThrow("twin", x, NoSuchElementException.class, () -> x.twin());
        Check.dueThrow("piece", x, NoSuchElementException.class, () -> x.piece(0));
        Check.dueThrow("code", x, UnsupportedOperationException.class, () -> x.code('a'));
        Check.due("checksum", x.checksum(), new Stemspan().checksum());
    }

    private static void theFirstOfSeveralOfTheText() {
        Stemspan x = Check.withText(FULL);
        Check.dueThrow("type", x, IllegalArgumentException.class, () -> x.type('g'));
        Check.dueThrow("typeMore", x, IllegalArgumentException.class, () -> x.typeMore(9, 0));
        Check.dueThrow("typeAt, place and sign", x, IndexOutOfBoundsException.class, () -> x.typeAt(25, 'g'));
        Check.dueThrow("typeAt, place and 24", x, IndexOutOfBoundsException.class, () -> x.typeAt(-1, 'a'));
        Check.dueThrow("typeAt, sign and 24", x, IllegalArgumentException.class, () -> x.typeAt(24, 'g'));
        Check.dueThrow("put, number and signs", x, IllegalArgumentException.class, () -> x.put(1000));
        Check.dueThrow("near, how and no word", x, IllegalArgumentException.class, () -> x.near('g'));
        Check.dueThrow("code, sign and signs", x, IllegalArgumentException.class, () -> x.code('g'));
    }

    private static void theFirstOfSeveralOfWordsAndCodes() {
        Stemspan x = new Stemspan();
        Check.fill(x, 24);
        Check.dueThrow("put, no signs and 24", x, UnsupportedOperationException.class, () -> x.put(1));
        Check.setText(x, "f");
        Check.dueThrow("put, number and 24", x, IllegalArgumentException.class, () -> x.put(-1));
        Stemspan y = with("", "aaaaaaaaaa=1");
        Check.setCodes(y, "bbb", "bb", "bb", "bb", "bb", "bb");
        Check.setText(y, "a");
        Check.dueThrow("read, codes and no row", y, UnsupportedOperationException.class, () -> y.read());
        Check.dueThrow("writeAll, codes and signs", y, UnsupportedOperationException.class, () -> y.writeAll());
    }
}
