import java.util.ArrayList;
import java.util.List;
import java.util.Map;
import java.util.NoSuchElementException;
import java.util.TreeMap;

/** The document once more, over the JDK's TreeMap and StringBuilder, as its words say it: to compare with. */
final class Plain {
    private StringBuilder text = new StringBuilder();
    private TreeMap<String, Integer> map = new TreeMap<>();
    private final String[] codes = {"a", "b", "c", "d", "e", "f"};

    private static void must(boolean good, RuntimeException otherwise) {
        if (!good) {
            throw otherwise;
        }
    }

    private static boolean sign(char c) {
        return "abcdef".indexOf(c) >= 0;
    }

    private List<String> begin(String row) {
        List<String> all = new ArrayList<>();
        for (String word : map.keySet()) {
            if (word.startsWith(row)) {
                all.add(word);
            }
        }
        return all;
    }

    private static int common(String a, String b) {
        int n = 0;
        while (n < a.length() && n < b.length() && a.charAt(n) == b.charAt(n)) {
            n++;
        }
        return n;
    }

    long type(char c) {
        must(sign(c), new IllegalArgumentException());
        must(text.length() < 24, new IllegalStateException());
        return text.append(c).length();
    }

    long typeMore(int many, int row) {
        must(many >= 1 && many <= 8 && row >= 0 && row <= 1679615, new IllegalArgumentException());
        must(text.length() + many <= 24, new IllegalStateException());
        String places = new StringBuilder(Integer.toString(row, 6)).reverse() + "00000000";
        for (int i = 0; i < many; i++) {
            text.append("abcdef".charAt(places.charAt(i) - '0'));
        }
        return text.length();
    }

    long typeAt(int place, char c) {
        must(place >= 0 && place <= text.length(), new IndexOutOfBoundsException());
        must(sign(c), new IllegalArgumentException());
        must(text.length() < 24, new IllegalStateException());
        return text.insert(place, c).length();
    }

    long drop() {
        must(text.length() > 0, new NoSuchElementException());
        text.setLength(text.length() - 1);
        return text.length();
    }

    long clip(int from, int to) {
        must(from >= 0 && to >= from && to <= text.length(), new IndexOutOfBoundsException());
        return text.delete(from, to).length();
    }

    long wipe() {
        int had = text.length();
        text = new StringBuilder();
        return had;
    }

    long turn() {
        String old = text.toString();
        return text.reverse().toString().equals(old) ? 1 : 0;
    }

    long signAt(int place) {
        must(place >= 0 && place < text.length(), new IndexOutOfBoundsException());
        return text.charAt(place);
    }

    long put(int number) {
        must(number >= 0 && number <= 999, new IllegalArgumentException());
        must(text.length() >= 1 && text.length() <= 10, new UnsupportedOperationException());
        must(map.containsKey(text.toString()) || map.size() < 24, new IllegalStateException());
        Integer had = map.put(text.toString(), number);
        return had == null ? -1 : had;
    }

    long take() {
        must(map.containsKey(text.toString()), new NoSuchElementException());
        return map.remove(text.toString());
    }

    long number() {
        must(map.containsKey(text.toString()), new NoSuchElementException());
        return map.get(text.toString());
    }

    long words() {
        return map.size();
    }

    long rank() {
        return map.headMap(text.toString()).size();
    }

    long word(int rank) {
        must(rank >= 0 && rank < map.size(), new IndexOutOfBoundsException());
        text = new StringBuilder(new ArrayList<>(map.keySet()).get(rank));
        return text.length();
    }

    long near(char how) {
        must("fclh".indexOf(how) >= 0, new IllegalArgumentException());
        String t = text.toString();
        String key = how == 'f' ? map.floorKey(t) : how == 'c' ? map.ceilingKey(t)
            : how == 'l' ? map.lowerKey(t) : map.higherKey(t);
        must(key != null, new NoSuchElementException());
        text = new StringBuilder(key);
        return map.get(key);
    }

    long begun() {
        return begin(text.toString()).size();
    }

    long begunAt(int index) {
        List<String> all = begin(text.toString());
        must(index >= 0 && index < all.size(), new NoSuchElementException());
        text = new StringBuilder(all.get(index));
        return map.get(all.get(index));
    }

    long sum() {
        long sum = 0;
        for (String word : begin(text.toString())) {
            sum += map.get(word);
        }
        return sum;
    }

    long gone() {
        List<String> all = begin(text.toString());
        map.keySet().removeAll(all);
        return all.size();
    }

    private int longestOf(String row) {
        for (int n = row.length(); n > 0; n--) {
            if (map.containsKey(row.substring(0, n))) {
                return n;
            }
        }
        return 0;
    }

    long longest(int place) {
        must(place >= 0 && place <= text.length(), new IndexOutOfBoundsException());
        return longestOf(text.substring(place));
    }

    long shared() {
        int most = 0;
        for (String word : map.keySet()) {
            most = Math.max(most, common(word, text.toString()));
        }
        return most;
    }

    long twin() {
        must(map.size() >= 2, new NoSuchElementException());
        int most = 0;
        for (String one : map.keySet()) {
            for (String other : map.keySet()) {
                if (!one.equals(other)) {
                    most = Math.max(most, common(one, other));
                }
            }
        }
        return most;
    }

    private List<Integer> greedy() {
        List<Integer> sizes = new ArrayList<>();
        String left = text.toString();
        while (longestOf(left) > 0) {
            sizes.add(longestOf(left));
            left = left.substring(longestOf(left));
        }
        return sizes;
    }

    long pieces() {
        int at = 0;
        for (int size : greedy()) {
            at += size;
        }
        return at == text.length() ? greedy().size() : -1 - at;
    }

    long piece(int index) {
        List<Integer> sizes = greedy();
        must(index >= 0 && index < sizes.size(), new NoSuchElementException());
        return sizes.get(index);
    }

    private long ways(String row, long[] known) {
        if (row.isEmpty()) {
            return 1;
        }
        if (known[row.length()] < 0) {
            long all = 0;
            for (String word : map.keySet()) {
                if (row.startsWith(word)) {
                    all += ways(row.substring(word.length()), known);
                }
            }
            known[row.length()] = all;
        }
        return known[row.length()];
    }

    long cuts() {
        long[] known = new long[25];
        java.util.Arrays.fill(known, -1);
        return ways(text.toString(), known);
    }

    long fewest() {
        java.util.TreeSet<String> left = new java.util.TreeSet<>();
        left.add(text.toString());
        for (int count = 0; count <= 24; count++) {
            if (left.contains("")) {
                return count;
            }
            java.util.TreeSet<String> next = new java.util.TreeSet<>();
            for (String row : left) {
                for (String word : map.keySet()) {
                    if (row.startsWith(word)) {
                        next.add(row.substring(word.length()));
                    }
                }
            }
            left = next;
        }
        return -1;
    }

    long code(char c) {
        must(sign(c), new IllegalArgumentException());
        must(text.length() >= 1 && text.length() <= 3, new UnsupportedOperationException());
        int had = codes[c - 'a'].length();
        codes[c - 'a'] = text.toString();
        return had;
    }

    private String written(String row) {
        StringBuilder all = new StringBuilder();
        for (char c : row.toCharArray()) {
            all.append(codes[c - 'a']);
        }
        return all.toString();
    }

    private boolean orderly() {
        for (int i = 0; i < 6; i++) {
            for (int j = 0; j < 6; j++) {
                if (i < j && codes[i].compareTo(codes[j]) >= 0 || i != j && codes[i].startsWith(codes[j])) {
                    return false;
                }
            }
        }
        return true;
    }

    long write() {
        String all = written(text.toString());
        must(all.length() <= 24, new IllegalStateException());
        text = new StringBuilder(all);
        return text.length();
    }

    private String unwritten(String row) {
        if (row.isEmpty()) {
            return "";
        }
        for (int i = 0; i < 6; i++) {
            if (row.startsWith(codes[i])) {
                String rest = unwritten(row.substring(codes[i].length()));
                if (rest != null) {
                    return "abcdef".charAt(i) + rest;
                }
            }
        }
        return null;
    }

    long read() {
        must(orderly(), new UnsupportedOperationException());
        String row = unwritten(text.toString());
        must(row != null, new NoSuchElementException());
        text = new StringBuilder(row);
        return text.length();
    }

    long writeAll() {
        must(orderly(), new UnsupportedOperationException());
        TreeMap<String, Integer> next = new TreeMap<>();
        int grown = 0;
        for (Map.Entry<String, Integer> entry : map.entrySet()) {
            String all = written(entry.getKey());
            must(all.length() <= 10, new IllegalStateException());
            grown += all.length() > entry.getKey().length() ? 1 : 0;
            next.put(all, entry.getValue());
        }
        map = next;
        return grown;
    }

    long isTrue() {
        return 1;
    }

    private static long add(long sum, String row) {
        for (char c : row.toCharArray()) {
            sum = 31 * sum + c;
        }
        return sum;
    }

    long checksum() {
        long sum = add(7, text.toString());
        for (Map.Entry<String, Integer> entry : map.entrySet()) {
            sum = 31 * add(sum, entry.getKey()) + entry.getValue();
        }
        for (String code : codes) {
            sum = add(31 * sum + code.length(), code);
        }
        return sum;
    }
}
