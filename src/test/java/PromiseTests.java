import java.util.Arrays;

/**
 * Each promise of the document: ordinary inputs, the edges it names, and wrong inputs.
 * An object's answers are promised for 512 calls, so long loops take new objects.
 */
public final class PromiseTests {
    private static int wrong = 0;
    private static int checked = 0;
    private static String promise = "";

    public static void main(String[] args) {
        newObject();
        title();
        language();
        roman();
        romanForms();
        mark();
        skip();
        key();
        keyRoom();
        at();
        number();
        add();
        file();
        browse();
        seek();
        compare();
        equal();
        System.out.println(checked + " answers looked at, " + wrong + " are not as due");
        if (wrong != 0) {
            System.exit(1);
        }
    }

    private static void due(String what, long got, long want) {
        checked++;
        if (got != want) {
            wrong++;
            System.out.println(promise + ": " + what + " answered " + got + ", due is " + want);
        }
    }

    private static void due(String what, boolean got, boolean want) {
        due(what, got ? 1 : 0, want ? 1 : 0);
    }

    private static void collect(FilingOrder x, String text) {
        for (int i = 0; i < text.length(); i++) {
            x.title(text.charAt(i));
        }
    }

    private static int keyOf(FilingOrder x, String text) {
        collect(x, text);
        return x.key();
    }

    private static int record(FilingOrder x, String text, int rank) {
        keyOf(x, text);
        return x.add(rank);
    }

    private static boolean atThrows(FilingOrder x, int i) {
        try {
            x.at(i);
            return false;
        } catch (RuntimeException e) {
            return e.getClass() == ArrayIndexOutOfBoundsException.class;
        }
    }

    /** What is collected makes a key of these bytes; a text stands for its signs. */
    private static void dueKey(FilingOrder x, Object... parts) {
        int[] want = new int[0];
        for (Object part : parts) {
            int[] more = part instanceof String ? ((String) part).chars().toArray() : new int[] {(Integer) part};
            int old = want.length;
            want = Arrays.copyOf(want, old + more.length);
            System.arraycopy(more, 0, want, old, more.length);
        }
        String what = "the key " + Arrays.toString(parts);
        int length = x.key();
        due(what + ", its length", length, want.length);
        for (int i = 0; i < Math.min(length, want.length); i++) {
            due(what + ", byte " + i, x.at(i), want[i]);
        }
    }

    private static void dueKeyOf(FilingOrder x, String text, Object... parts) {
        collect(x, text);
        dueKey(x, parts);
    }

    private static void dueList(FilingOrder x, int... want) {
        for (int p = 0; p < want.length; p++) {
            due("place " + p + " of the list", x.browse(want[0], p), want[p]);
            due("place " + p + " of the list, from itself", x.browse(want[p], 0), want[p]);
            due("the list's first from place " + p, x.browse(want[p], -p), want[0]);
        }
        due("behind the list", x.browse(want[0], want.length), 0);
        due("before the list", x.browse(want[0], -1), 0);
    }

    private static void newObject() {
        promise = "promise 1";
        due("NONE", FilingOrder.NONE, -1);
        FilingOrder x = new FilingOrder();
        due("skip(1)", x.skip(1), false);
        due("at(0) throws", atThrows(x, 0), true);
        due("number(0, 0)", x.number(0, 0), -1);
        due("compare(1, 1)", x.compare(1, 1), -2);
        due("equal(1, 0)", x.equal(1, 0), 0);
        due("browse(1, 0)", x.browse(1, 0), 0);
        due("browse(0, 0)", x.browse(0, 0), 0);
        due("seek()", x.seek(), 0);
        due("file()", x.file(), 0);
        due("key()", x.key(), 0);
        due("roman(false)", x.roman(false), false);
        due("language(0)", x.language(0), 0);
        for (int c = 33; c <= 126; c++) {
            if (!Character.isLetterOrDigit(c)) {
                due("mark " + c, x.mark(c, 0), 0);
            }
        }
        dueKeyOf(new FilingOrder(), "The XIV", 3, "the", 0, 3, "xiv", 0);
    }

    private static void title() {
        promise = "promise 2";
        FilingOrder x = new FilingOrder();
        dueKeyOf(x, "AZaz09", 3, "azaz09", 0);
        x.title('A' + 256);
        x.title('b' - 256);
        x.title('c' + (1 << 30));
        dueKey(x, 3, "abc", 0);
        for (int c = 0; c < 256; c++) {
            if (c < 32 || c > 126) {
                dueKeyOf(new FilingOrder(), "a" + (char) c + "b", 3, "ab", 0);
            }
        }
        x.title(-1);
        x.title(Integer.MIN_VALUE);
        x.title(Integer.MAX_VALUE);
        dueKey(x);

        x = new FilingOrder();
        dueKeyOf(x, "a".repeat(79) + "bcd", 3, "a".repeat(79), "b", 0);
        collect(x, "a".repeat(81));
        due("skip(81) of 80", x.skip(81), false);
        due("skip(80)", x.skip(80), true);
        dueKey(x);
        dueKeyOf(x, "-".repeat(79) + "bc", 3, "b", 0);
        dueKeyOf(x, " ".repeat(79) + "bc", 3, "b", 0);
        dueKeyOf(x, "\u0007".repeat(79) + "bc", 3, "b", 0);
    }

    private static void language() {
        promise = "promise 3";
        FilingOrder x = new FilingOrder();
        due("language(3)", x.language(3), 0);
        due("language(2)", x.language(2), 3);
        due("language(4)", x.language(4), -1);
        due("language(-1)", x.language(-1), -1);
        due("language(max)", x.language(Integer.MAX_VALUE), -1);
        due("language(min)", x.language(Integer.MIN_VALUE), -1);
        due("language(1)", x.language(1), 2);
        due("language(1)", x.language(1), 1);
        due("language(0)", x.language(0), 1);

        String[] articles = {"", "a an the", "der die das", "le la les"};
        String[] others = {"a", "an", "the", "der", "die", "das", "le", "la", "les", "th", "thea", "l", "lesa", "d", "i"};
        for (int l = 0; l <= 3; l++) {
            for (String word : others) {
                x = new FilingOrder();
                x.language(l);
                boolean leftOut = (" " + articles[l] + " ").contains(" " + word + " ");
                if (leftOut) {
                    dueKeyOf(x, word + " x", 3, "x", 0);
                } else {
                    dueKeyOf(x, word + " x", 3, word, 0, 3, "x", 0);
                }
                dueKeyOf(x, word, 3, word, 0);
                dueKeyOf(x, word + " - ", 3, word, 0);
                dueKeyOf(x, "x " + word, 3, "x", 0, 3, word, 0);
            }
        }
        x = new FilingOrder();
        x.language(1);
        dueKeyOf(x, " -  THE  the 7", 3, "the", 0, 2, 1, "7");
        dueKeyOf(x, "\"T-h\u0001e\" 7", 2, 1, "7");
        dueKeyOf(x, "the-wall x", 3, "thewall", 0, 3, "x", 0);
        x.mark('-', 1);
        dueKeyOf(x, "the-wall x", 3, "wall", 0, 3, "x", 0);
        collect(x, "the wall");
        x.language(0);
        dueKey(x, 3, "the", 0, 3, "wall", 0);
    }

    private static void roman() {
        promise = "promise 4";
        FilingOrder x = new FilingOrder();
        due("roman(false)", x.roman(false), false);
        dueKeyOf(x, "xiv", 3, "xiv", 0);
        due("roman(true)", x.roman(true), false);
        dueKeyOf(x, "XiV", 2, 2, "14");
        due("roman(true)", x.roman(true), true);
        collect(x, "xiv");
        due("roman(false)", x.roman(false), true);
        dueKey(x, 3, "xiv", 0);
        x.roman(true);
        for (String word : new String[] {"iiii", "vv", "iix", "ic", "im", "mmmm", "ixi", "cmc", "cmd", "ivi", "xcx",
                "lxl", "dcd", "cccc", "xxxx", "vx", "ll", "dd", "viiii", "xiva", "axiv", "xiv1", "1xiv", "vix", "dm"}) {
            dueKeyOf(x, word, 3, word, 0);
        }
        x.mark('.', 0);
        dueKeyOf(x, "x.i.v", 2, 2, "14");
        x.mark('.', 1);
        dueKeyOf(x, "x.i.v", 2, 2, "10", 2, 1, "1", 2, 1, "5");
    }

    private static void romanForms() {
        String[] thousands = {"", "m", "mm", "mmm"};
        String[] hundreds = {"", "c", "cc", "ccc", "cd", "d", "dc", "dcc", "dccc", "cm"};
        String[] tens = {"", "x", "xx", "xxx", "xl", "l", "lx", "lxx", "lxxx", "xc"};
        String[] ones = {"", "i", "ii", "iii", "iv", "v", "vi", "vii", "viii", "ix"};
        for (int n = 1; n <= 3999; n++) {
            FilingOrder x = new FilingOrder();
            x.roman(true);
            String form = thousands[n / 1000] + hundreds[n / 100 % 10] + tens[n / 10 % 10] + ones[n % 10];
            String digits = Integer.toString(n);
            dueKeyOf(x, form, 2, digits.length(), digits);
            due(form + ", its digits", x.number(0, 0), digits.length());
            due(form + " was Roman", x.number(0, 1), 1);
            due(form + " as a number", x.number(0, 2), n);
        }
    }

    private static void mark() {
        promise = "promise 5";
        for (int c = -10; c < 600; c++) {
            FilingOrder x = new FilingOrder();
            boolean isMark = c >= 33 && c <= 126 && !Character.isLetterOrDigit(c);
            due("mark(" + c + ", 1)", x.mark(c, 1), isMark ? 0 : -1);
            due("mark(" + c + ", 2)", x.mark(c, 2), -1);
            due("mark(" + c + ", -1)", x.mark(c, -1), -1);
            if (isMark) {
                due("mark(" + c + ", 1) again", x.mark(c, 1), 1);
                dueKeyOf(x, "a" + (char) c + "b", 3, "a", 0, 3, "b", 0);
                due("mark(" + c + ", 0)", x.mark(c, 0), 1);
                dueKeyOf(x, "a" + (char) c + "b", 3, "ab", 0);
                due("mark(" + c + ", 0) again", x.mark(c, 0), 0);
            }
        }
        FilingOrder x = new FilingOrder();
        due("mark(max, 1)", x.mark(Integer.MAX_VALUE, 1), -1);
        due("mark(min, 1)", x.mark(Integer.MIN_VALUE, 1), -1);
        due("mark('-', max)", x.mark('-', Integer.MAX_VALUE), -1);
        due("mark('-', min)", x.mark('-', Integer.MIN_VALUE), -1);

        x.mark('-', 1);
        dueKeyOf(x, "1-2.3", 2, 1, "1", 2, 2, "23");
        collect(x, "1-2");
        x.mark('-', 0);
        dueKey(x, 2, 2, "12");
    }

    private static void skip() {
        promise = "promise 6";
        FilingOrder x = new FilingOrder();
        x.language(2);
        due("skip(0) of nothing", x.skip(0), true);
        due("skip(1) of nothing", x.skip(1), false);
        collect(x, "die Nacht");
        due("skip(10) of 9", x.skip(10), false);
        due("skip(-1)", x.skip(-1), false);
        due("skip(min)", x.skip(Integer.MIN_VALUE), false);
        due("skip(max)", x.skip(Integer.MAX_VALUE), false);
        due("skip(9)", x.skip(9), true);
        dueKey(x);
        dueKeyOf(x, "die Nacht", 3, "nacht", 0);

        collect(x, "die Nacht");
        due("skip(2)", x.skip(2), true);
        due("skip(99)", x.skip(99), false);
        dueKey(x, 3, "e", 0, 3, "nacht", 0);

        collect(x, "die Nacht");
        x.skip(4);
        due("skip(0)", x.skip(0), true);
        dueKey(x, 3, "nacht", 0);

        collect(x, "x die Nacht");
        x.skip(2);
        dueKey(x, 3, "die", 0, 3, "nacht", 0);

        collect(x, "\" 7");
        x.skip(2);
        collect(x, "8");
        dueKey(x, 2, 2, "78");

        // Signs that are left out of the words are collected, and count.
        collect(x, "\u0001\u00ff7");
        due("skip(4) of 3", x.skip(4), false);
        due("skip(2)", x.skip(2), true);
        dueKey(x, 2, 1, "7");

        collect(x, "00123");
        x.skip(3);
        dueKey(x, 2, 2, "23");
    }

    private static void key() {
        promise = "promise 7";
        FilingOrder x = new FilingOrder();
        dueKey(x);
        dueKeyOf(x, "  -- ");
        dueKeyOf(x, "Wall-E 007", 3, "walle", 0, 2, 1, "7");
        dueKey(x);
        dueKeyOf(x, "0", 2, 1, "0");
        dueKeyOf(x, "0000 00100 10", 2, 1, "0", 2, 3, "100", 2, 2, "10");
        dueKeyOf(x, "1a a1 1", 3, "1a", 0, 3, "a1", 0, 2, 1, "1");
        dueKeyOf(x, "9".repeat(80), 2, 80, "9".repeat(80));
        dueKeyOf(x, "0".repeat(79) + "9", 2, 1, "9");
        dueKeyOf(x, "0".repeat(80), 2, 1, "0");
        collect(x, "ab cd");
        x.skip(3);
        x.key();
        dueKeyOf(x, "ab cd", 3, "ab", 0, 3, "cd", 0);
    }

    private static void keyRoom() {
        FilingOrder x = new FilingOrder();
        x.roman(true);
        due("the longest key", keyOf(x, "m ".repeat(40)), 240);
        due("its last byte", x.at(239), '0');
        due("its last number", x.number(39, 2), 1000);
        due("no number more", x.number(40, 2), -1);
        due("the longest key once more, from the second sign on", keyOf(x, " m".repeat(40)), 240);
        x.roman(false);
        due("forty words", keyOf(x, "m ".repeat(40)), 120);
        due("forty digits", keyOf(x, "0 ".repeat(40)), 120);
        due("one word of 80", keyOf(x, "m".repeat(80)), 82);
    }

    private static void at() {
        promise = "promise 8";
        FilingOrder x = new FilingOrder();
        due("at(0) without a key throws", atThrows(x, 0), true);
        due("key()", keyOf(x, "ab 12"), 8);
        int[] want = {3, 'a', 'b', 0, 2, 2, '1', '2'};
        for (int i = 0; i < want.length; i++) {
            due("at(" + i + ")", x.at(i), want[i]);
        }
        for (int i : new int[] {8, -1, 240, 1000, Integer.MAX_VALUE, Integer.MIN_VALUE}) {
            due("at(" + i + ") throws", atThrows(x, i), true);
        }
        collect(x, "zz");
        due("at(1) before the next key", x.at(1), 'a');
        x.key();
        due("at(1)", x.at(1), 'z');
        due("at(3)", x.at(3), 0);
        due("at(4) of the shorter key throws", atThrows(x, 4), true);
        x.key();
        due("at(0) of an empty key throws", atThrows(x, 0), true);
    }

    private static void number() {
        promise = "promise 9";
        FilingOrder x = new FilingOrder();
        x.roman(true);
        keyOf(x, "007 xiv a1 123456789012 1000000000 0 MMMCMXCIX 999999999");
        int[][] want = {{1, 0, 7}, {2, 1, 14}, {12, 0, 456789012}, {10, 0, 0}, {1, 0, 0}, {4, 1, 3999}, {9, 0, 999999999}};
        for (int i = 0; i < want.length; i++) {
            for (int kind = 0; kind < 3; kind++) {
                due("number(" + i + ", " + kind + ")", x.number(i, kind), want[i][kind]);
            }
            for (int kind : new int[] {-1, 3, Integer.MAX_VALUE, Integer.MIN_VALUE}) {
                due("number(" + i + ", " + kind + ")", x.number(i, kind), -1);
            }
        }
        for (int i : new int[] {-1, 7, 40, Integer.MAX_VALUE, Integer.MIN_VALUE}) {
            due("number(" + i + ", 0)", x.number(i, 0), -1);
        }
        collect(x, "8 9");
        due("number(0, 2) before the next key", x.number(0, 2), 7);
        x.key();
        due("number(0, 2)", x.number(0, 2), 8);
        due("number(1, 2)", x.number(1, 2), 9);
        due("number(2, 2)", x.number(2, 2), -1);
        keyOf(x, "words alone");
        due("number(0, 2) of words alone", x.number(0, 2), -1);
        x.language(1);
        keyOf(x, "the 5");
        due("number(0, 2) behind an article", x.number(0, 2), 5);
        collect(x, "5 6");
        x.skip(1);
        x.key();
        due("number(0, 2) behind what is left out", x.number(0, 2), 6);
    }

    private static void add() {
        promise = "promise 10";
        FilingOrder x = new FilingOrder();
        for (int rank : new int[] {-1, 4, Integer.MAX_VALUE, Integer.MIN_VALUE}) {
            due("add(" + rank + ")", x.add(rank), 0);
        }
        due("add(0) without a key", x.add(0), 1);
        keyOf(x, "b");
        due("add(3)", x.add(3), 2);
        due("add(2) with the same key", x.add(2), 3);
        collect(x, "a");
        due("add(1) with a title begun", x.add(1), 4);
        due("compare(2, 4)", x.compare(2, 4), 0);
        x.key();
        due("add(1)", x.add(1), 5);
        due("compare(5, 4)", x.compare(5, 4), -1);
        due("compare(1, 5)", x.compare(1, 5), -1);
        for (int n = 6; n <= 60; n++) {
            due("add(" + n % 4 + ")", x.add(n % 4), n);
        }
        due("add(0) beyond 60", x.add(0), 0);
        due("file()", x.file(), 60);
        due("compare(60, 61)", x.compare(60, 61), -2);
    }

    private static void file() {
        promise = "promise 11";
        FilingOrder x = new FilingOrder();
        due("file() of none", x.file(), 0);
        record(x, "wall", 1);
        record(x, "Wall", 0);
        record(x, "wall", 1);
        record(x, "wall e", 0);
        record(x, "12", 0);
        record(x, "9", 3);
        record(x, "", 3);
        record(x, "walls", 0);
        record(x, "wal", 0);
        due("file()", x.file(), 8 + 1);
        // A word's end, 0, is before every sign, and a number's beginning, 2, before a word's, 3.
        dueList(x, 7, 6, 5, 9, 2, 1, 3, 4, 8);
        due("file() again", x.file(), 9);
        dueList(x, 7, 6, 5, 9, 2, 1, 3, 4, 8);
        record(x, "wall", 1);
        record(x, "wall", 0);
        record(x, "a", 0);
        due("browse(10, 0) before it is filed", x.browse(10, 0), 0);
        dueList(x, 7, 6, 5, 9, 2, 1, 3, 4, 8);
        due("file() with three more", x.file(), 12);
        dueList(x, 7, 6, 5, 12, 9, 2, 11, 1, 3, 10, 4, 8);

        FilingOrder y = new FilingOrder();
        int[] want = new int[60];
        for (int n = 1; n <= 60; n++) {
            record(y, Integer.toString(70 - n), 0);
            want[60 - n] = n;
        }
        due("file() of 60", y.file(), 60);
        dueList(y, want);
    }

    private static void browse() {
        promise = "promise 12";
        FilingOrder x = new FilingOrder();
        record(x, "c", 0);
        record(x, "a", 0);
        record(x, "b", 0);
        due("browse(1, 0) before it is filed", x.browse(1, 0), 0);
        x.file();
        record(x, "d", 0);
        due("browse(2, 0)", x.browse(2, 0), 2);
        due("browse(2, 1)", x.browse(2, 1), 3);
        due("browse(2, 2)", x.browse(2, 2), 1);
        due("browse(2, 3)", x.browse(2, 3), 0);
        due("browse(1, -1)", x.browse(1, -1), 3);
        due("browse(1, -2)", x.browse(1, -2), 2);
        due("browse(1, -3)", x.browse(1, -3), 0);
        due("browse(4, 0), not in the list", x.browse(4, 0), 0);
        due("browse(4, -1), not in the list", x.browse(4, -1), 0);
        for (int far : new int[] {Integer.MAX_VALUE, Integer.MIN_VALUE}) {
            due("browse(1, " + far + ")", x.browse(1, far), 0);
            due("browse(2, " + far + ")", x.browse(2, far), 0);
            due("browse(" + far + ", 0)", x.browse(far, 0), 0);
            due("browse(" + far + ", 1)", x.browse(far, 1), 0);
        }
        due("browse(0, 1)", x.browse(0, 1), 0);
        due("browse(-1, 1)", x.browse(-1, 1), 0);
    }

    private static void seek() {
        promise = "promise 13";
        FilingOrder x = new FilingOrder();
        record(x, "m", 2);
        record(x, "m", 1);
        record(x, "c", 0);
        due("seek() before it is filed", x.seek(), 0);
        x.file();
        keyOf(x, "m");
        due("seek() of m", x.seek(), 2);
        due("seek() of m again", x.seek(), 2);
        keyOf(x, "d");
        due("seek() of d", x.seek(), 2);
        keyOf(x, "c");
        due("seek() of c", x.seek(), 3);
        keyOf(x, "c c");
        due("seek() of c c", x.seek(), 2);
        keyOf(x, "7");
        due("seek() of 7", x.seek(), 3);
        keyOf(x, "");
        due("seek() of an empty key", x.seek(), 3);
        keyOf(x, "mm");
        due("seek() of mm", x.seek(), 0);
        x.add(0);
        due("seek() of mm that is not filed", x.seek(), 0);
        x.file();
        due("seek() of mm", x.seek(), 4);
    }

    private static void compare() {
        promise = "promise 14";
        FilingOrder x = new FilingOrder();
        String[] inOrder = {"", "9", "9 9", "10", "10 a", "100", "a", "a 1", "a b", "aa", "b"};
        for (String text : inOrder) {
            record(x, text, 0);
        }
        record(x, "A", 3);
        for (int a = 1; a <= inOrder.length; a++) {
            for (int b = 1; b <= inOrder.length; b++) {
                due("compare(" + a + ", " + b + ")", x.compare(a, b), Integer.compare(a, b));
            }
        }
        due("compare(7, 12), of other ranks", x.compare(7, 12), 0);
        for (int none : new int[] {0, -1, 13, 61, Integer.MAX_VALUE, Integer.MIN_VALUE}) {
            due("compare(1, " + none + ")", x.compare(1, none), -2);
            due("compare(" + none + ", 1)", x.compare(none, 1), -2);
            due("compare(" + none + ", " + none + ")", x.compare(none, none), -2);
        }
    }

    private static void equal() {
        promise = "promise 15";
        FilingOrder x = new FilingOrder();
        record(x, "a", 3);
        record(x, "b", 0);
        record(x, "A", 1);
        record(x, "-a", 0);
        record(x, "a a", 0);
        due("equal(1, 0)", x.equal(1, 0), 3);
        due("equal(1, 1)", x.equal(1, 1), 4);
        due("equal(1, 2)", x.equal(1, 2), 0);
        due("equal(3, 0)", x.equal(3, 0), 1);
        due("equal(3, 1)", x.equal(3, 1), 4);
        due("equal(4, 0)", x.equal(4, 0), 1);
        due("equal(4, 1)", x.equal(4, 1), 3);
        due("equal(2, 0)", x.equal(2, 0), 0);
        due("equal(5, 0)", x.equal(5, 0), 0);
        for (int i : new int[] {-1, 60, Integer.MAX_VALUE, Integer.MIN_VALUE}) {
            due("equal(1, " + i + ")", x.equal(1, i), 0);
            due("equal(" + i + ", 0)", x.equal(i, 0), 0);
        }
        due("equal(0, 0)", x.equal(0, 0), 0);
        due("equal(6, 0)", x.equal(6, 0), 0);
        keyOf(x, "");
        x.add(0);
        x.add(0);
        due("equal(6, 0), of empty keys", x.equal(6, 0), 7);
    }
}
