import java.util.ArrayList;
import java.util.Arrays;

/** Titles filed by keys; ../shared/DOC.md tells what each call answers. */
public final class FilingOrder {
    public static final int NONE = -1;

    private static final int MOST_SIGNS = 80;
    // Every second sign may end a word, so half of the signs are words at most.
    private static final int MOST_WORDS = 40;
    // The dearest word for its signs is a lone Roman m: 2, 4 and the four digits of 1000.
    private static final int MOST_BYTES = MOST_WORDS * 6;
    private static final int MOST_RECORDS = 60;
    private static final int LANGUAGES = 4;
    private static final int RANKS = 4;

    private static final int NUMBER_BEGINS = 2;
    private static final int WORD_BEGINS = 3;
    private static final int WORD_ENDS = 0;

    private static final int NO_RECORD = 0;
    private static final int NOT_COMPARED = -2;

    private final Title collected;
    private final Marks marks;
    private final Words words;
    private final RomanReader romanReader;
    private final KeyRow latest;
    private final Numbers numbers;
    private final ArrayList<Entry> records;
    private final ArrayList<Entry> filed;
    private int languageNow;
    private boolean romanOn;

    public FilingOrder() {
        collected = new Title();
        marks = new Marks();
        words = new Words();
        romanReader = new RomanReader(words);
        latest = new KeyRow(new byte[MOST_BYTES], 0);
        numbers = new Numbers();
        records = new ArrayList<>();
        filed = new ArrayList<>();
        languageNow = 0;
        romanOn = false;
    }

    public void title(int c) {
        collected.collect(c & 255);
    }

    public int language(int l) {
        if (l < 0 || l >= LANGUAGES) {
            return NONE;
        }
        int before = languageNow;
        languageNow = l;
        return before;
    }

    public boolean roman(boolean on) {
        boolean before = romanOn;
        romanOn = on;
        return before;
    }

    public int mark(int c, int as) {
        if (!isMark(c) || as < 0 || as > 1) {
            return NONE;
        }
        int before = marks.isSpace(c) ? 1 : 0;
        marks.take(c, as == 1);
        return before;
    }

    public boolean skip(int count) {
        return collected.leaveOut(count);
    }

    public int key() {
        words.read(collected, marks);
        boolean articleLeftOut = !collected.isLeftOutTold() && words.count > 1 && isArticle(0);
        latest.clear();
        numbers.clear();
        for (int w = articleLeftOut ? 1 : 0; w < words.count; w++) {
            putIntoKey(w);
        }
        collected.clear();
        return latest.length;
    }

    public int at(int i) throws ArrayIndexOutOfBoundsException {
        if (i < 0 || i >= latest.length) {
            throw new ArrayIndexOutOfBoundsException("no such byte of the key");
        }
        return latest.byteAt(i);
    }

    public int number(int i, int kind) {
        return numbers.tell(i, kind);
    }

    public int add(int rank) {
        if (rank < 0 || rank >= RANKS || records.size() >= MOST_RECORDS) {
            return NO_RECORD;
        }
        int number = records.size() + 1;
        records.add(new Entry(number, rank, latest.copy()));
        return number;
    }

    public int file() {
        // What is filed already stays in order, so only the records that came later find their places.
        for (int r = filed.size(); r < records.size(); r++) {
            Entry entry = records.get(r);
            filed.add(placeFor(entry), entry);
        }
        return filed.size();
    }

    public int browse(int from, int i) {
        int place = placeOf(from);
        if (place == NONE) {
            return NO_RECORD;
        }
        long wanted = (long) place + i;
        if (wanted < 0 || wanted >= filed.size()) {
            return NO_RECORD;
        }
        return filed.get((int) wanted).number;
    }

    public int seek() {
        for (int p = 0; p < filed.size(); p++) {
            Entry entry = filed.get(p);
            if (entry.key.order(latest) >= 0) {
                return entry.number;
            }
        }
        return NO_RECORD;
    }

    public int compare(int a, int b) {
        if (!isRecord(a) || !isRecord(b)) {
            return NOT_COMPARED;
        }
        return records.get(a - 1).key.order(records.get(b - 1).key);
    }

    public int equal(int record, int i) {
        if (!isRecord(record) || i < 0) {
            return NO_RECORD;
        }
        KeyRow wanted = records.get(record - 1).key;
        int before = 0;
        for (int r = 0; r < records.size(); r++) {
            Entry other = records.get(r);
            if (other.number != record && other.key.order(wanted) == 0) {
                if (before == i) {
                    return other.number;
                }
                before++;
            }
        }
        return NO_RECORD;
    }

    private static boolean isLetter(int c) {
        return (c >= 'a' && c <= 'z') || (c >= 'A' && c <= 'Z');
    }

    private static boolean isDigit(int c) {
        return c >= '0' && c <= '9';
    }

    private static boolean isMark(int c) {
        return c >= 33 && c <= 126 && !isLetter(c) && !isDigit(c);
    }

    private static int small(int c) {
        return c >= 'A' && c <= 'Z' ? c - 'A' + 'a' : c;
    }

    private boolean isArticle(int w) {
        switch (languageNow) {
            case 1:
                return words.reads(w, "a") || words.reads(w, "an") || words.reads(w, "the");
            case 2:
                return words.reads(w, "der") || words.reads(w, "die") || words.reads(w, "das");
            case 3:
                return words.reads(w, "le") || words.reads(w, "la") || words.reads(w, "les");
            default:
                return false;
        }
    }

    private void putIntoKey(int w) {
        if (words.isDigits(w)) {
            putDigits(w);
            return;
        }
        int value = romanOn ? romanReader.read(w) : 0;
        if (value > 0) {
            putRoman(value);
        } else {
            putWord(w);
        }
    }

    private void putDigits(int w) {
        int end = words.end(w);
        int first = words.start(w);
        // The last digit stays even if it is a zero: the number 0 has one digit.
        while (first < end - 1 && words.signAt(first) == '0') {
            first++;
        }
        latest.put(NUMBER_BEGINS);
        latest.put(end - first);
        int tail = 0;
        for (int i = first; i < end; i++) {
            int digit = words.signAt(i);
            latest.put(digit);
            if (i >= end - 9) {
                tail = tail * 10 + (digit - '0');
            }
        }
        numbers.note(end - first, false, tail);
    }

    private void putRoman(int value) {
        int digits = value >= 1000 ? 4 : value >= 100 ? 3 : value >= 10 ? 2 : 1;
        latest.put(NUMBER_BEGINS);
        latest.put(digits);
        for (int unit = 1000; unit > 0; unit /= 10) {
            if (value >= unit) {
                latest.put('0' + value / unit % 10);
            }
        }
        numbers.note(digits, true, value);
    }

    private void putWord(int w) {
        latest.put(WORD_BEGINS);
        for (int i = words.start(w); i < words.end(w); i++) {
            latest.put(words.signAt(i));
        }
        latest.put(WORD_ENDS);
    }

    private boolean isRecord(int number) {
        return number >= 1 && number <= records.size();
    }

    private int placeFor(Entry entry) {
        int place = filed.size();
        while (place > 0 && entry.isBefore(filed.get(place - 1))) {
            place--;
        }
        return place;
    }

    private int placeOf(int number) {
        for (int p = 0; p < filed.size(); p++) {
            if (filed.get(p).number == number) {
                return p;
            }
        }
        return NONE;
    }

    /** What is collected, and how many signs of its beginning were told to be left out. */
    private static final class Title {
        private final char[] signs = new char[MOST_SIGNS];
        private int length;
        private int leftOut;

        // Every sign is kept as it came: what is left out of the words counts all the same.
        void collect(int c) {
            if (length < signs.length) {
                signs[length] = (char) c;
                length++;
            }
        }

        boolean leaveOut(int count) {
            if (count < 0 || count > length) {
                return false;
            }
            leftOut = count;
            return true;
        }

        boolean isLeftOutTold() {
            return leftOut > 0;
        }

        int signAt(int i) {
            return i >= 0 && i < signs.length ? signs[i] : 0;
        }

        void clear() {
            length = 0;
            leftOut = 0;
        }
    }

    /** Which marks are taken as spaces. */
    private static final class Marks {
        private final boolean[] spaces = new boolean[127];

        boolean isSpace(int c) {
            return isMark(c) && spaces[c];
        }

        void take(int c, boolean asSpace) {
            if (isMark(c)) {
                spaces[c] = asSpace;
            }
        }
    }

    /** The words of a title, their signs in one row without the spaces between them. */
    private static final class Words {
        private final char[] signs = new char[MOST_SIGNS];
        private final int[] ends = new int[MOST_WORDS];
        private int length;
        private int count;

        void read(Title title, Marks marks) {
            length = 0;
            count = 0;
            for (int i = title.leftOut; i < title.length; i++) {
                int c = title.signAt(i);
                if (isLetter(c) || isDigit(c)) {
                    put(small(c));
                } else if (c == ' ' || marks.isSpace(c)) {
                    endWord();
                }
            }
            endWord();
        }

        private void put(int c) {
            if (length < signs.length) {
                signs[length] = (char) c;
                length++;
            }
        }

        private void endWord() {
            if (length > start(count) && count < ends.length) {
                ends[count] = length;
                count++;
            }
        }

        int start(int w) {
            return w > 0 ? end(w - 1) : 0;
        }

        int end(int w) {
            return w >= 0 && w < ends.length ? ends[w] : 0;
        }

        int signAt(int i) {
            return i >= 0 && i < signs.length ? signs[i] : 0;
        }

        boolean reads(int w, String text) {
            int start = start(w);
            if (end(w) - start != text.length()) {
                return false;
            }
            for (int i = 0; i < text.length(); i++) {
                if (signAt(start + i) != text.charAt(i)) {
                    return false;
                }
            }
            return true;
        }

        boolean isDigits(int w) {
            for (int i = start(w); i < end(w); i++) {
                if (!isDigit(signAt(i))) {
                    return false;
                }
            }
            return true;
        }
    }

    /** Reads a word as a Roman numeral, from its thousands to its ones. */
    private static final class RomanReader {
        // No word holds this sign, so a place that has no five or ten never finds one.
        private static final int NO_LETTER = 0;

        private final Words words;
        private int next;
        private int end;

        RomanReader(Words words) {
            this.words = words;
        }

        /** The number 1 .. 3999 of which the word is the usual form, or 0. */
        int read(int w) {
            next = words.start(w);
            end = words.end(w);
            int value = readPlace('m', NO_LETTER, NO_LETTER);
            value = value * 10 + readPlace('c', 'd', 'm');
            value = value * 10 + readPlace('x', 'l', 'c');
            value = value * 10 + readPlace('i', 'v', 'x');
            return next == end ? value : 0;
        }

        private int readPlace(int one, int five, int ten) {
            if (isNext(0, one) && isNext(1, ten)) {
                next += 2;
                return 9;
            }
            if (isNext(0, one) && isNext(1, five)) {
                next += 2;
                return 4;
            }
            int digit = 0;
            if (isNext(0, five)) {
                next++;
                digit = 5;
            }
            for (int ones = 0; ones < 3 && isNext(0, one); ones++) {
                next++;
                digit++;
            }
            return digit;
        }

        private boolean isNext(int ahead, int letter) {
            return next + ahead < end && words.signAt(next + ahead) == letter;
        }
    }

    /** A row of bytes by which titles are put in order. */
    private static final class KeyRow {
        private final byte[] bytes;
        private int length;

        KeyRow(byte[] bytes, int length) {
            this.bytes = bytes;
            this.length = length;
        }

        void clear() {
            length = 0;
        }

        void put(int b) {
            if (length < bytes.length) {
                bytes[length] = (byte) b;
                length++;
            }
        }

        int byteAt(int i) {
            return i >= 0 && i < length ? bytes[i] : 0;
        }

        KeyRow copy() {
            return new KeyRow(Arrays.copyOf(bytes, length), length);
        }

        /** -1 if this row is before the other one, 0 if they are the same, 1 if it is behind. */
        int order(KeyRow other) {
            int shared = Math.min(length, other.length);
            for (int i = 0; i < shared; i++) {
                if (bytes[i] != other.bytes[i]) {
                    return bytes[i] < other.bytes[i] ? -1 : 1;
                }
            }
            if (length == other.length) {
                return 0;
            }
            return length < other.length ? -1 : 1;
        }
    }

    /** What is told of the numbers in the latest key. */
    private static final class Numbers {
        private final int[] digits = new int[MOST_WORDS];
        private final boolean[] romans = new boolean[MOST_WORDS];
        private final int[] tails = new int[MOST_WORDS];
        private int count;

        void clear() {
            count = 0;
        }

        void note(int digitCount, boolean wasRoman, int tail) {
            if (count < MOST_WORDS) {
                digits[count] = digitCount;
                romans[count] = wasRoman;
                tails[count] = tail;
                count++;
            }
        }

        int tell(int i, int kind) {
            if (i < 0 || i >= count) {
                return NONE;
            }
            switch (kind) {
                case 0:
                    return digits[i];
                case 1:
                    return romans[i] ? 1 : 0;
                case 2:
                    return tails[i];
                default:
                    return NONE;
            }
        }
    }

    /** A record: its number, its rank and its key. */
    private static final class Entry {
        private final int number;
        private final int rank;
        private final KeyRow key;

        Entry(int number, int rank, KeyRow key) {
            this.number = number;
            this.rank = rank;
            this.key = key;
        }

        boolean isBefore(Entry other) {
            int order = key.order(other.key);
            if (order != 0) {
                return order < 0;
            }
            if (rank != other.rank) {
                return rank < other.rank;
            }
            return number < other.number;
        }
    }
}
