/**
 * Runs of calls, the same ones each time, on the class and on Plain: each answer, each exception and each checksum
 * must be the same. Different runs lean to different calls and signs, so that lists get full and codes orderly.
 */
public final class RunsTest {
    private static final int RUNS = 600;
    private static final int CALLS = 512;
    private static final String[] NAMES = {"type", "typeMore", "typeAt", "drop", "clip", "wipe", "turn", "signAt",
        "put", "take", "number", "words", "rank", "word", "near", "begun", "begunAt", "sum", "gone", "longest",
        "shared", "twin", "pieces", "piece", "cuts", "fewest", "code", "write", "read", "writeAll", "isTrue",
        "checksum"};
    private static final String[][] ORDERLY = {{"a", "b", "c", "d", "e", "f"}, {"a", "ba", "bb", "bca", "bcc", "f"},
        {"aaa", "aab", "aac", "ab", "ac", "b"}, {"aa", "ab", "c", "d", "e", "f"}, {"b", "c", "d", "e", "fa", "fb"}};

    private static long seed = 20261118L;
    private static final long[] answered = new long[NAMES.length];
    private static final long[] thrown = new long[NAMES.length];

    public static void main(String[] args) {
        for (int run = 0; run < RUNS; run++) {
            oneRun(run);
        }
        for (int i = 0; i < NAMES.length; i++) {
            Check.due(NAMES[i].concat(" answered often"), answered[i] > 500, true);
        }
        for (String name : new String[] {"type", "typeMore", "typeAt", "drop", "clip", "signAt", "put", "take",
            "number", "word", "near", "begunAt", "longest", "twin", "piece", "code", "write", "read", "writeAll"}) {
            Check.due(name.concat(" threw often"), thrown[java.util.Arrays.asList(NAMES).indexOf(name)] > 50, true);
        }
        if (args.length > 0) {
            for (int i = 0; i < NAMES.length; i++) {
                System.out.println(NAMES[i] + " answered " + answered[i] + ", threw " + thrown[i]);
            }
        }
        Check.end();
    }

    private static int below(int bound) {
        seed = seed * 6364136223846793005L + 1442695040888963407L;
        return (int) ((seed >>> 33) % bound);
    }

    private static void oneRun(int run) {
        Stemspan x = new Stemspan();
        Plain p = new Plain();
        int signs = 1 + below(6);
        int lean = below(4);
        for (int i = 0; i < CALLS; i++) {
            int call = pick(lean);
            char sign = sign(signs);
            int one = number(NAMES[call]);
            int other = one + below(6) - 1;
            if (below(60) == 0) {
                other = below(4) == 0 ? Integer.MAX_VALUE : below(2000000) - 10000;
            }
            compare(run, i, call, x, p, sign, one, other);
            Check.due("run " + run + ", call " + i + ", " + NAMES[call] + ": checksum", x.checksum(), p.checksum());
            if (run % 2 == 0 && below(6) == 0) {
                // Long texts are seldom words or beginnings of words; short ones are seldom full.
                int size = x.clip(0, 0);
                x.clip(Math.min(size, below(4)), size);
                p.clip(x.clip(0, 0), size);
            }
            if (below(100) == 0) {
                setCodes(x, p, ORDERLY[below(ORDERLY.length)]);
            }
        }
    }

    private static int pick(int lean) {
        int chance = below(10);
        if (chance < 3) {
            return below(2) == 0 ? 0 : 2;
        }
        if (chance < 5 && lean > 0) {
            return 8;
        }
        if (chance < 6 && lean > 1) {
            return 4;
        }
        int call = below(NAMES.length);
        // These empty much at once; rarely called, they leave lists and texts that get full.
        boolean empties = call == 5 || call == 18;
        return empties && below(4) != 0 ? 30 : call;
    }

    private static char sign(int signs) {
        if (below(25) == 0) {
            return "g`AZfa".charAt(below(6));
        }
        return (char) ('a' + below(signs));
    }

    private static int number(String name) {
        if (below(40) == 0) {
            int[] far = {Integer.MIN_VALUE, Integer.MAX_VALUE, -2, 25, 999, 1000, 1679615, 1679616};
            return far[below(far.length)];
        }
        return name.equals("put") ? below(1000) : below(1 + below(13)) - (below(20) == 0 ? 1 : 0);
    }

    private static void setCodes(Stemspan x, Plain p, String[] codes) {
        for (int i = 0; i < codes.length; i++) {
            Check.setText(x, codes[i]);
            x.code((char) ('a' + i));
            p.wipe();
            for (char c : codes[i].toCharArray()) {
                p.type(c);
            }
            p.code((char) ('a' + i));
        }
    }

    private static void compare(int run, int i, int call, Stemspan x, Plain p, char sign, int one, int other) {
        long got = 0;
        String gotThrown = "nothing";
        try {
            got = onClass(x, call, sign, one, other);
        } catch (RuntimeException e) {
            gotThrown = e.getClass().getName();
        }
        long want = 0;
        String wantThrown = "nothing";
        try {
            want = onPlain(p, call, sign, one, other);
        } catch (RuntimeException e) {
            wantThrown = e.getClass().getName();
        }
        String what = "run " + run + ", call " + i + ", " + NAMES[call] + "(" + sign + ", " + one + ", " + other + ")";
        Check.due(what + " throws", gotThrown, wantThrown);
        Check.due(what, got, want);
        if (wantThrown.equals("nothing")) {
            answered[call]++;
        } else {
            thrown[call]++;
        }
    }

    private static char how(char sign, int one) {
        return sign > 'f' || sign < 'a' ? sign : "fclh".charAt(Math.floorMod(one, 4));
    }

    private static long onClass(Stemspan x, int call, char sign, int one, int other) {
        switch (call) {
            case 0: return x.type(sign);
            case 1: return x.typeMore(one, other);
            case 2: return x.typeAt(one, sign);
            case 3: return x.drop();
            case 4: return x.clip(one, other);
            case 5: return x.wipe();
            case 6: return x.turn() ? 1 : 0;
            case 7: return x.signAt(one);
            case 8: return x.put(one);
            case 9: return x.take();
            case 10: return x.number();
            case 11: return x.words();
            case 12: return x.rank();
            case 13: return x.word(one);
            case 14: return x.near(how(sign, one));
            case 15: return x.begun();
            case 16: return x.begunAt(one);
            case 17: return x.sum();
            case 18: return x.gone();
            case 19: return x.longest(one);
            case 20: return x.shared();
            case 21: return x.twin();
            case 22: return x.pieces();
            case 23: return x.piece(one);
            case 24: return x.cuts();
            case 25: return x.fewest();
            case 26: return x.code(sign);
            case 27: return x.write();
            case 28: return x.read();
            case 29: return x.writeAll();
            case 30: return x.isTrue() ? 1 : 0;
            default: return x.checksum();
        }
    }

    private static long onPlain(Plain p, int call, char sign, int one, int other) {
        switch (call) {
            case 0: return p.type(sign);
            case 1: return p.typeMore(one, other);
            case 2: return p.typeAt(one, sign);
            case 3: return p.drop();
            case 4: return p.clip(one, other);
            case 5: return p.wipe();
            case 6: return p.turn();
            case 7: return p.signAt(one);
            case 8: return p.put(one);
            case 9: return p.take();
            case 10: return p.number();
            case 11: return p.words();
            case 12: return p.rank();
            case 13: return p.word(one);
            case 14: return p.near(how(sign, one));
            case 15: return p.begun();
            case 16: return p.begunAt(one);
            case 17: return p.sum();
            case 18: return p.gone();
            case 19: return p.longest(one);
            case 20: return p.shared();
            case 21: return p.twin();
            case 22: return p.pieces();
            case 23: return p.piece(one);
            case 24: return p.cuts();
            case 25: return p.fewest();
            case 26: return p.code(sign);
            case 27: return p.write();
            case 28: return p.read();
            case 29: return p.writeAll();
            case 30: return p.isTrue();
            default: return p.checksum();
        }
    }
}
