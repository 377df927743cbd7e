/** Counts what is as due and what is not, and sets and reads texts for the tests. */
final class Check {
    private static int right = 0;
    private static int wrong = 0;
    // Stands ahead of each line that tells what is wrong.
    private static String about = "";

    private Check() {
    }

    static void due(String what, long got, long want) {
        tell(what, got == want, String.valueOf(got), String.valueOf(want));
    }

    static void due(String what, boolean got, boolean want) {
        tell(what, got == want, String.valueOf(got), String.valueOf(want));
    }

    static void due(String what, String got, String want) {
        tell(what, got.equals(want), got, want);
    }

    /** Runs a test; a throw that it did not wait for is a wrong answer, and so is a test that checks nothing. */
    static void run(String what, Runnable test) {
        about = what.concat(": ");
        int before = right + wrong;
        try {
            test.run();
        } catch (RuntimeException e) {
            tell("the test", false, "throws.".concat(e.getClass().getName()), "its end");
        }
        due("the test checks something", right + wrong > before, true);
        about = "";
    }

    /** The call must throw just this exception and leave text, words and codes as they were. */
    static void dueThrow(String what, Stemspan x, Class<?> want, Runnable call) {
        long before = x.checksum();
        int size = x.clip(0, 0);
        int words = x.words();
        String thrown = "nothing";
        try {
            call.run();
        } catch (RuntimeException e) {
            thrown = e.getClass().getName();
        }
        due(what.concat(" throws"), thrown, want.getName());
        due(what.concat(" changes nothing"), x.checksum(), before);
        due(what.concat(" leaves the text's size"), x.clip(0, 0), size);
        due(what.concat(" leaves as many words"), x.words(), words);
    }

    private static void tell(String what, boolean good, String got, String want) {
        if (good) {
            right++;
            return;
        }
        wrong++;
        if (wrong <= 50) {
            System.out.println(about + what + ": answered " + got + ", due is " + want);
        }
    }

    /** Ends the program: with exit code 1 if something was wrong, or if nothing was checked. */
    static void end() {
        System.out.println(right + " answers as due, " + wrong + " not");
        if (wrong != 0 || right == 0) {
            System.exit(1);
        }
    }

    static Stemspan withText(String text) {
        Stemspan x = new Stemspan();
        setText(x, text);
        return x;
    }

    static void setText(Stemspan x, String text) {
        x.wipe();
        for (int i = 0; i < text.length(); i++) {
            x.type(text.charAt(i));
        }
    }

    static String textOf(Stemspan x) {
        int size = x.clip(0, 0);
        StringBuilder text = new StringBuilder();
        for (int i = 0; i < size; i++) {
            text.append(x.signAt(i));
        }
        return text.toString();
    }

    /** Puts words as "word=number", one behind the other; the text is empty then. */
    static void putAll(Stemspan x, String... entries) {
        for (String entry : entries) {
            int at = entry.indexOf('=');
            setText(x, entry.substring(0, at));
            x.put(Integer.parseInt(entry.substring(at + 1)));
        }
        x.wipe();
    }

    /** All words with their numbers in their order, as putAll takes them; the text stays. */
    static String wordsOf(Stemspan x) {
        String text = textOf(x);
        StringBuilder all = new StringBuilder();
        for (int rank = 0; rank < x.words(); rank++) {
            x.word(rank);
            all.append(rank == 0 ? "" : " ").append(textOf(x)).append('=').append(x.number());
        }
        setText(x, text);
        return all.toString();
    }

    static void setCodes(Stemspan x, String... codes) {
        for (int i = 0; i < codes.length; i++) {
            setText(x, codes[i]);
            x.code((char) ('a' + i));
        }
        x.wipe();
    }

    /** As many unlike words as asked for, of two signs each: aa, ab, and so on. */
    static void fill(Stemspan x, int many) {
        for (int i = 0; i < many; i++) {
            x.wipe();
            x.type((char) ('a' + i / 6));
            x.type((char) ('a' + i % 6));
            x.put(i);
        }
        x.wipe();
    }
}
