import java.util.NoSuchElementException;

/**
 * A text of signs, words with numbers that are asked by their beginnings, ways to cut the text into words, and
 * codes by which rows are written anew.
 */
public final class Stemspan {
    private static final char FIRST_SIGN = 'a';
    private static final char NO_SIGN = (char) 0;
    private static final int SIGNS = 6;
    private static final int MOST_IN_TEXT = 24;
    private static final int MOST_IN_WORD = 10;
    private static final int MOST_IN_CODE = 3;
    private static final int MOST_WORDS = 24;
    private static final int MOST_NUMBER = 999;
    private static final int MOST_TYPED = 8;
    private static final int MOST_TYPED_ROW = 1679615;
    private static final int NONE = -1;

    private final Row text;
    private final Row spare;
    private final WordList list;
    private final CodeBook book;
    private final Cutter cutter;
    private final Theorem theorem;

    public Stemspan() {
        text = new Row(MOST_IN_TEXT);
        spare = new Row(MOST_IN_TEXT);
        list = new WordList();
        book = new CodeBook();
        cutter = new Cutter();
        theorem = new Theorem();
    }

    // The text.

    public int type(char sign) throws IllegalArgumentException, IllegalStateException {
        if (!isSign(sign)) {
            throw new IllegalArgumentException("no sign");
        }
        if (text.size() >= MOST_IN_TEXT) {
            throw new IllegalStateException("the text is full");
        }
        text.append(sign);
        return text.size();
    }

    public int typeMore(int many, int row) throws IllegalArgumentException, IllegalStateException {
        if (many < 1 || many > MOST_TYPED || row < 0 || row > MOST_TYPED_ROW) {
            throw new IllegalArgumentException("a number is out of range");
        }
        if (text.size() + many > MOST_IN_TEXT) {
            throw new IllegalStateException("the text would have too many signs");
        }
        int rest = row;
        for (int i = 0; i < many; i++) {
            text.append(signOf(rest % SIGNS));
            rest /= SIGNS;
        }
        return text.size();
    }

    public int typeAt(int place, char sign)
            throws IndexOutOfBoundsException, IllegalArgumentException, IllegalStateException {
        if (place < 0 || place > text.size()) {
            throw new IndexOutOfBoundsException("no such place");
        }
        if (!isSign(sign)) {
            throw new IllegalArgumentException("no sign");
        }
        if (text.size() >= MOST_IN_TEXT) {
            throw new IllegalStateException("the text is full");
        }
        text.insert(place, sign);
        return text.size();
    }

    public int drop() throws NoSuchElementException {
        if (text.size() == 0) {
            throw new NoSuchElementException("the text has no signs");
        }
        text.removePart(text.size() - 1, text.size());
        return text.size();
    }

    public int clip(int from, int to) throws IndexOutOfBoundsException {
        if (from < 0 || to < from || to > text.size()) {
            throw new IndexOutOfBoundsException("no such part");
        }
        text.removePart(from, to);
        return text.size();
    }

    public int wipe() {
        int had = text.size();
        text.clear();
        return had;
    }

    public boolean turn() {
        return text.reverse();
    }

    public char signAt(int place) throws IndexOutOfBoundsException {
        if (place < 0 || place >= text.size()) {
            throw new IndexOutOfBoundsException("no such place");
        }
        return text.at(place);
    }

    // Words.

    public int put(int number) throws IllegalArgumentException, UnsupportedOperationException, IllegalStateException {
        if (number < 0 || number > MOST_NUMBER) {
            throw new IllegalArgumentException("the number is out of range");
        }
        if (text.size() == 0 || text.size() > MOST_IN_WORD) {
            throw new UnsupportedOperationException("the text can be no word");
        }
        int rank = list.rankOf(text);
        if (rank == NONE && list.size() >= MOST_WORDS) {
            throw new IllegalStateException("there are as many words as there may be");
        }
        if (rank == NONE) {
            list.insert(text, number);
            return NONE;
        }
        int had = list.numberAt(rank);
        list.setNumber(rank, number);
        return had;
    }

    public int take() throws NoSuchElementException {
        int rank = list.rankOf(text);
        if (rank == NONE) {
            throw new NoSuchElementException("the text is no word");
        }
        int had = list.numberAt(rank);
        list.remove(rank);
        return had;
    }

    public int number() throws NoSuchElementException {
        int rank = list.rankOf(text);
        if (rank == NONE) {
            throw new NoSuchElementException("the text is no word");
        }
        return list.numberAt(rank);
    }

    public int words() {
        return list.size();
    }

    public int rank() {
        return list.countLess(text);
    }

    public int word(int rank) throws IndexOutOfBoundsException {
        if (rank < 0 || rank >= list.size()) {
            throw new IndexOutOfBoundsException("no such rank");
        }
        text.become(list.rowAt(rank));
        return text.size();
    }

    public int near(char how) throws IllegalArgumentException, NoSuchElementException {
        if (how != 'f' && how != 'c' && how != 'l' && how != 'h') {
            throw new IllegalArgumentException("no way to be near");
        }
        int rank = rankNear(how);
        if (rank < 0 || rank >= list.size()) {
            throw new NoSuchElementException("no such word");
        }
        text.become(list.rowAt(rank));
        return list.numberAt(rank);
    }

    // Beginnings.

    public int begun() {
        return list.countBegun(text);
    }

    public int begunAt(int index) throws NoSuchElementException {
        int rank = list.rankBegun(text, index);
        if (rank == NONE) {
            throw new NoSuchElementException("no such word");
        }
        text.become(list.rowAt(rank));
        return list.numberAt(rank);
    }

    public int sum() {
        return list.sumBegun(text);
    }

    public int gone() {
        return list.removeBegun(text);
    }

    public int longest(int place) throws IndexOutOfBoundsException {
        if (place < 0 || place > text.size()) {
            throw new IndexOutOfBoundsException("no such place");
        }
        return list.longestAt(text, place);
    }

    public int shared() {
        return list.mostCommon(text);
    }

    public int twin() throws NoSuchElementException {
        if (list.size() < 2) {
            throw new NoSuchElementException("fewer than two words");
        }
        return list.mostCommonOfTwo();
    }

    // Cuts.

    public int pieces() {
        cutter.look(text, list);
        return cutter.countLongest();
    }

    public int piece(int index) throws NoSuchElementException {
        cutter.look(text, list);
        int size = cutter.sizeOfLongest(index);
        if (size == 0) {
            throw new NoSuchElementException("no such piece");
        }
        return size;
    }

    public long cuts() {
        cutter.look(text, list);
        return cutter.countWays(0);
    }

    public int fewest() {
        cutter.look(text, list);
        return cutter.leastPieces();
    }

    // Codes.

    public int code(char sign) throws IllegalArgumentException, UnsupportedOperationException {
        if (!isSign(sign)) {
            throw new IllegalArgumentException("no sign");
        }
        if (text.size() == 0 || text.size() > MOST_IN_CODE) {
            throw new UnsupportedOperationException("the text can be no code");
        }
        Row old = book.codeOf(sign);
        int had = old.size();
        old.become(text);
        return had;
    }

    public int write() throws IllegalStateException {
        if (book.sizeWritten(text) > MOST_IN_TEXT) {
            throw new IllegalStateException("the text would have too many signs");
        }
        book.writeInto(text, spare);
        text.become(spare);
        return text.size();
    }

    public int read() throws UnsupportedOperationException, NoSuchElementException {
        if (!book.isOrderly()) {
            throw new UnsupportedOperationException("the codes are not orderly");
        }
        if (!book.readInto(text, spare)) {
            throw new NoSuchElementException("no row is written so");
        }
        text.become(spare);
        return text.size();
    }

    public int writeAll() throws UnsupportedOperationException, IllegalStateException {
        if (!book.isOrderly()) {
            throw new UnsupportedOperationException("the codes are not orderly");
        }
        if (book.mostWritten(list) > MOST_IN_WORD) {
            throw new IllegalStateException("a word would have too many signs");
        }
        book.writeWords(list);
        int grown = 0;
        for (int rank = 0; rank < list.size(); rank++) {
            Row row = list.rowAt(rank);
            Row written = book.writtenAt(rank);
            if (written.size() > row.size()) {
                grown++;
            }
            // Orderly codes keep the order, so each word keeps its rank.
            row.become(written);
        }
        return grown;
    }

    // All.

    public boolean isTrue() {
        cutter.look(text, list);
        return theorem.beginningsHold(text, list)
                && theorem.longestHolds(text, list)
                && theorem.commonHolds(text, list)
                && theorem.twinsHold(list)
                && theorem.cutsHold(text, cutter)
                && theorem.fewestHolds(list, cutter)
                && theorem.codesHold(list, book);
    }

    public long checksum() {
        long sum = text.addTo(7L);
        for (int rank = 0; rank < list.size(); rank++) {
            sum = 31L * list.rowAt(rank).addTo(sum) + list.numberAt(rank);
        }
        for (int i = 0; i < SIGNS; i++) {
            Row code = book.codeOf(signOf(i));
            sum = code.addTo(31L * sum + code.size());
        }
        return sum;
    }

    private int rankNear(char how) {
        if (how == 'f') {
            return list.countNotGreater(text) - 1;
        }
        if (how == 'c') {
            return list.countLess(text);
        }
        if (how == 'l') {
            return list.countLess(text) - 1;
        }
        return list.countNotGreater(text);
    }

    private static boolean isSign(char sign) {
        return sign >= FIRST_SIGN && sign < FIRST_SIGN + SIGNS;
    }

    private static char signOf(int index) {
        return (char) (FIRST_SIGN + index);
    }

    /** Signs one behind the other, in an array that is made once; its users look for room before they put more. */
    private static final class Row {
        private final char[] signs;
        private int length;

        Row(int room) {
            signs = new char[Math.max(room, 0)];
            length = 0;
        }

        int size() {
            return length;
        }

        char at(int place) {
            return place >= 0 && place < length ? signs[place] : NO_SIGN;
        }

        void clear() {
            length = 0;
        }

        void append(char sign) {
            if (length < signs.length) {
                signs[length] = sign;
                length++;
            }
        }

        void appendAll(Row other) {
            for (int i = 0; i < other.length; i++) {
                append(other.signs[i]);
            }
        }

        void insert(int place, char sign) {
            if (place < 0 || place > length || length >= signs.length) {
                return;
            }
            for (int i = length; i > place; i--) {
                signs[i] = signs[i - 1];
            }
            signs[place] = sign;
            length++;
        }

        void removePart(int from, int to) {
            if (from < 0 || to < from || to > length) {
                return;
            }
            int gap = to - from;
            for (int i = to; i < length; i++) {
                signs[i - gap] = signs[i];
            }
            length -= gap;
        }

        /** Tells whether the row reads the same both ways. */
        boolean reverse() {
            boolean same = true;
            for (int i = 0; i < length / 2; i++) {
                int other = length - 1 - i;
                char sign = signs[i];
                same = same && sign == signs[other];
                signs[i] = signs[other];
                signs[other] = sign;
            }
            return same;
        }

        void become(Row other) {
            becomePart(other, 0, other.length);
        }

        void becomePart(Row other, int from, int to) {
            clear();
            for (int i = from; i < to; i++) {
                append(other.at(i));
            }
        }

        int common(Row other) {
            int same = 0;
            while (same < length && same < other.length && signs[same] == other.signs[same]) {
                same++;
            }
            return same;
        }

        int compareWith(Row other) {
            int same = common(other);
            if (same < length && same < other.length) {
                return signs[same] - other.signs[same];
            }
            return length - other.length;
        }

        boolean beginsWith(Row other) {
            return hasAt(0, other);
        }

        boolean hasAt(int place, Row other) {
            if (place < 0 || place > length || other.length > length - place) {
                return false;
            }
            for (int i = 0; i < other.length; i++) {
                if (signs[place + i] != other.signs[i]) {
                    return false;
                }
            }
            return true;
        }

        long addTo(long start) {
            long sum = start;
            for (int i = 0; i < length; i++) {
                sum = 31L * sum + signs[i];
            }
            return sum;
        }
    }

    /** The words in their order, each with its number. */
    private static final class WordList {
        private final Row[] rows;
        private final int[] numbers;
        private final Row nothing;
        private int count;

        WordList() {
            rows = new Row[MOST_WORDS];
            for (int i = 0; i < rows.length; i++) {
                rows[i] = new Row(MOST_IN_WORD);
            }
            numbers = new int[MOST_WORDS];
            nothing = new Row(0);
            count = 0;
        }

        int size() {
            return count;
        }

        Row rowAt(int rank) {
            return rank >= 0 && rank < count ? rows[rank] : nothing;
        }

        int numberAt(int rank) {
            return rank >= 0 && rank < count ? numbers[rank] : NONE;
        }

        void setNumber(int rank, int number) {
            if (rank >= 0 && rank < count) {
                numbers[rank] = number;
            }
        }

        int countLess(Row row) {
            int rank = 0;
            while (rank < count && rowAt(rank).compareWith(row) < 0) {
                rank++;
            }
            return rank;
        }

        int countNotGreater(Row row) {
            int rank = 0;
            while (rank < count && rowAt(rank).compareWith(row) <= 0) {
                rank++;
            }
            return rank;
        }

        int rankOf(Row row) {
            int rank = countLess(row);
            return rank < count && rowAt(rank).compareWith(row) == 0 ? rank : NONE;
        }

        void insert(Row row, int number) {
            if (count >= rows.length) {
                return;
            }
            int rank = countLess(row);
            Row free = rows[count];
            for (int i = count; i > rank; i--) {
                rows[i] = rows[i - 1];
                numbers[i] = numbers[i - 1];
            }
            free.become(row);
            rows[rank] = free;
            numbers[rank] = number;
            count++;
        }

        void remove(int rank) {
            if (rank < 0 || rank >= count) {
                return;
            }
            Row free = rows[rank];
            for (int i = rank + 1; i < count; i++) {
                rows[i - 1] = rows[i];
                numbers[i - 1] = numbers[i];
            }
            count--;
            rows[count] = free;
        }

        int countBegun(Row row) {
            int begun = 0;
            for (int rank = 0; rank < count; rank++) {
                if (rowAt(rank).beginsWith(row)) {
                    begun++;
                }
            }
            return begun;
        }

        int rankBegun(Row row, int index) {
            int left = index;
            for (int rank = 0; rank < count; rank++) {
                if (rowAt(rank).beginsWith(row)) {
                    if (left == 0) {
                        return rank;
                    }
                    left--;
                }
            }
            return NONE;
        }

        int sumBegun(Row row) {
            int sum = 0;
            for (int rank = 0; rank < count; rank++) {
                if (rowAt(rank).beginsWith(row)) {
                    sum += numberAt(rank);
                }
            }
            return sum;
        }

        int removeBegun(Row row) {
            int removed = 0;
            for (int rank = count - 1; rank >= 0; rank--) {
                if (rowAt(rank).beginsWith(row)) {
                    remove(rank);
                    removed++;
                }
            }
            return removed;
        }

        int longestAt(Row row, int place) {
            int most = 0;
            for (int rank = 0; rank < count; rank++) {
                if (row.hasAt(place, rowAt(rank))) {
                    most = Math.max(most, rowAt(rank).size());
                }
            }
            return most;
        }

        int mostCommon(Row row) {
            int most = 0;
            for (int rank = 0; rank < count; rank++) {
                most = Math.max(most, row.common(rowAt(rank)));
            }
            return most;
        }

        int mostCommonOfTwo() {
            int most = 0;
            for (int one = 0; one < count; one++) {
                for (int other = one + 1; other < count; other++) {
                    most = Math.max(most, rowAt(one).common(rowAt(other)));
                }
            }
            return most;
        }
    }

    /** The code of each sign, and the words as they are written by these. */
    private static final class CodeBook {
        private final Row[] codes;
        private final Row[] written;
        private final Row nothing;

        CodeBook() {
            codes = new Row[SIGNS];
            for (int i = 0; i < codes.length; i++) {
                codes[i] = new Row(MOST_IN_CODE);
                codes[i].append(signOf(i));
            }
            written = new Row[MOST_WORDS];
            for (int i = 0; i < written.length; i++) {
                written[i] = new Row(MOST_IN_WORD * MOST_IN_CODE);
            }
            nothing = new Row(0);
        }

        Row codeOf(char sign) {
            return isSign(sign) ? codes[sign - FIRST_SIGN] : nothing;
        }

        boolean isOrderly() {
            for (int less = 0; less < SIGNS; less++) {
                for (int greater = less + 1; greater < SIGNS; greater++) {
                    // A code that begins with another one is greater than that one, so one way round is enough.
                    if (codes[less].compareWith(codes[greater]) >= 0 || codes[greater].beginsWith(codes[less])) {
                        return false;
                    }
                }
            }
            return true;
        }

        int sizeWritten(Row row) {
            int size = 0;
            for (int i = 0; i < row.size(); i++) {
                size += codeOf(row.at(i)).size();
            }
            return size;
        }

        void writeInto(Row row, Row target) {
            target.clear();
            for (int i = 0; i < row.size(); i++) {
                target.appendAll(codeOf(row.at(i)));
            }
        }

        int mostWritten(WordList list) {
            int most = 0;
            for (int rank = 0; rank < list.size(); rank++) {
                most = Math.max(most, sizeWritten(list.rowAt(rank)));
            }
            return most;
        }

        void writeWords(WordList list) {
            for (int rank = 0; rank < list.size(); rank++) {
                writeInto(list.rowAt(rank), writtenAt(rank));
            }
        }

        Row writtenAt(int rank) {
            return rank >= 0 && rank < written.length ? written[rank] : nothing;
        }

        /** Tells whether the row can be read; of orderly codes at most one stands at a place. */
        boolean readInto(Row row, Row target) {
            target.clear();
            int place = 0;
            for (int step = 0; step < MOST_IN_TEXT && place < row.size(); step++) {
                char sign = signRead(row, place);
                if (sign == NO_SIGN) {
                    return false;
                }
                target.append(sign);
                place += codeOf(sign).size();
            }
            return place == row.size();
        }

        private char signRead(Row row, int place) {
            for (int i = 0; i < SIGNS; i++) {
                if (row.hasAt(place, codes[i])) {
                    return signOf(i);
                }
            }
            return NO_SIGN;
        }
    }

    /** The ways to cut the row that was looked at last. */
    private static final class Cutter {
        // For each place a bit for each size: no two words of one size stand at one place, so a bit is one word.
        private final int[] fits;
        private final long[] ways;
        private final int[] least;
        private int size;

        Cutter() {
            fits = new int[MOST_IN_TEXT + 1];
            ways = new long[MOST_IN_TEXT + 1];
            least = new int[MOST_IN_TEXT + 1];
            size = 0;
        }

        void look(Row row, WordList list) {
            size = Math.min(row.size(), MOST_IN_TEXT);
            for (int place = 0; place <= size; place++) {
                fits[place] = 0;
                for (int rank = 0; rank < list.size(); rank++) {
                    if (row.hasAt(place, list.rowAt(rank))) {
                        fits[place] |= 1 << list.rowAt(rank).size();
                    }
                }
            }
        }

        boolean fitsAt(int place, int many) {
            return place >= 0 && place + many <= size && (fits[place] & 1 << many) != 0;
        }

        private int longestFit(int place) {
            int many = MOST_IN_WORD;
            while (many > 0 && !fitsAt(place, many)) {
                many--;
            }
            return many;
        }

        int countLongest() {
            int place = 0;
            int count = 0;
            while (count < size && longestFit(place) > 0) {
                place += longestFit(place);
                count++;
            }
            return place == size ? count : -1 - place;
        }

        int sizeOfLongest(int index) {
            if (index < 0 || index >= size) {
                return 0;
            }
            int place = 0;
            for (int i = 0; i < index; i++) {
                place += longestFit(place);
            }
            return longestFit(place);
        }

        /** Counts the ways to cut what stands from a place on, by what is ahead of each place. */
        long countWays(int from) {
            if (from < 0 || from > size) {
                return 0L;
            }
            for (int place = from; place <= size; place++) {
                ways[place] = place == from ? 1L : 0L;
            }
            for (int place = from; place < size; place++) {
                for (int many = 1; many <= MOST_IN_WORD; many++) {
                    if (fitsAt(place, many)) {
                        ways[place + many] += ways[place];
                    }
                }
            }
            return ways[size];
        }

        int leastPieces() {
            least[0] = 0;
            for (int place = 1; place <= size; place++) {
                least[place] = NONE;
            }
            for (int place = 0; place < size; place++) {
                for (int many = 1; many <= MOST_IN_WORD; many++) {
                    if (least[place] != NONE && fitsAt(place, many)) {
                        least[place + many] = lesser(least[place + many], least[place] + 1);
                    }
                }
            }
            return least[size];
        }

        private static int lesser(int known, int found) {
            return known == NONE ? found : Math.min(known, found);
        }
    }

    /** Checks what the order tells against what the words are one by one. */
    private static final class Theorem {
        private final Row part;
        private final Row both;

        Theorem() {
            part = new Row(MOST_IN_TEXT);
            both = new Row(MOST_IN_TEXT);
        }

        boolean beginningsHold(Row text, WordList list) {
            int most = Math.min(text.size(), MOST_IN_WORD);
            for (int many = 0; many <= most; many++) {
                part.becomePart(text, 0, many);
                if (!standTogether(list)) {
                    return false;
                }
            }
            return true;
        }

        private boolean standTogether(WordList list) {
            int first = list.countLess(part);
            int behind = first + list.countBegun(part);
            for (int rank = 0; rank < list.size(); rank++) {
                boolean told = rank >= first && rank < behind;
                if (told != list.rowAt(rank).beginsWith(part)) {
                    return false;
                }
            }
            return true;
        }

        boolean longestHolds(Row text, WordList list) {
            for (int place = 0; place <= text.size(); place++) {
                part.becomePart(text, place, text.size());
                if (list.longestAt(text, place) != longestByOrder(list)) {
                    return false;
                }
            }
            return true;
        }

        private int longestByOrder(WordList list) {
            int floor = list.countNotGreater(part) - 1;
            if (floor < 0) {
                return 0;
            }
            Row near = list.rowAt(floor);
            if (part.beginsWith(near)) {
                return near.size();
            }
            both.becomePart(part, 0, part.common(near));
            return list.longestAt(both, 0);
        }

        boolean commonHolds(Row text, WordList list) {
            // A rank that is none answers the row without signs, with which nothing is in common.
            int floor = text.common(list.rowAt(list.countNotGreater(text) - 1));
            int ceiling = text.common(list.rowAt(list.countLess(text)));
            return list.mostCommon(text) == Math.max(floor, ceiling);
        }

        boolean twinsHold(WordList list) {
            int most = 0;
            for (int rank = 1; rank < list.size(); rank++) {
                most = Math.max(most, list.rowAt(rank - 1).common(list.rowAt(rank)));
            }
            return list.mostCommonOfTwo() == most;
        }

        boolean cutsHold(Row text, Cutter cutter) {
            if (text.size() == 0) {
                return true;
            }
            long all = 0L;
            for (int many = 1; many <= MOST_IN_WORD; many++) {
                if (cutter.fitsAt(0, many)) {
                    all += cutter.countWays(many);
                }
            }
            return cutter.countWays(0) == all;
        }

        boolean fewestHolds(WordList list, Cutter cutter) {
            int least = cutter.leastPieces();
            return least == NONE || cutter.countLongest() == least || !endsAreWords(list);
        }

        private boolean endsAreWords(WordList list) {
            for (int rank = 0; rank < list.size(); rank++) {
                Row row = list.rowAt(rank);
                for (int place = 1; place < row.size(); place++) {
                    part.becomePart(row, place, row.size());
                    if (list.rankOf(part) == NONE) {
                        return false;
                    }
                }
            }
            return true;
        }

        boolean codesHold(WordList list, CodeBook book) {
            if (!book.isOrderly()) {
                return true;
            }
            book.writeWords(list);
            for (int less = 0; less < list.size(); less++) {
                for (int greater = less + 1; greater < list.size(); greater++) {
                    if (!keepsOrder(less, greater, list, book)) {
                        return false;
                    }
                }
            }
            return true;
        }

        private static boolean keepsOrder(int less, int greater, WordList list, CodeBook book) {
            Row one = book.writtenAt(less);
            Row other = book.writtenAt(greater);
            return one.compareWith(other) < 0
                    && !one.beginsWith(other)
                    && other.beginsWith(one) == list.rowAt(greater).beginsWith(list.rowAt(less));
        }
    }
}
