import java.lang.reflect.InvocationTargetException;
import java.lang.reflect.Method;
import java.util.Arrays;
import java.util.Comparator;
import java.util.HashMap;
import java.util.Map;

/**
 * The document's boundary cases: a test for each sentence that names one, and its name begins with the promise.
 * What a sentence under "Terms" says stands under the promise whose calls show it.
 */
public final class BoundaryTests {
    private static final int MAX = Integer.MAX_VALUE;
    private static final int MIN = Integer.MIN_VALUE;
    private static final String[][] ARTICLES = {{}, {"a", "an", "the"}, {"der", "die", "das"}, {"le", "la", "les"}};

    private static String test = "";
    private static int wrong = 0;

    /** Every method whose name begins with "promise" is a test, so that none can be forgotten here. */
    public static void main(String[] args) throws IllegalAccessException {
        Method[] methods = BoundaryTests.class.getDeclaredMethods();
        Arrays.sort(methods, Comparator.comparing(Method::getName));
        int tests = 0;
        for (Method method : methods) {
            if (method.getName().startsWith("promise")) {
                tests++;
                run(method);
            }
        }
        System.out.println(tests + " boundary tests, " + wrong + " answers are not as due");
        if (wrong != 0) {
            System.exit(1);
        }
    }

    private static void run(Method method) throws IllegalAccessException {
        test = method.getName();
        try {
            method.invoke(null);
        } catch (InvocationTargetException e) {
            wrong++;
            System.out.println(test + " threw " + e.getCause());
        }
    }

    // Promise 1: a new object.

    static void promise01_nothingIsCollected() {
        Order x = new Order();
        due("skip(1)", x.skip(1), false);
        due("skip(0)", x.skip(0), true);
        due("key()", x.key(), 0);
    }

    static void promise01_noKey() {
        Order x = new Order();
        dueNoByte(x, 0);
        dueNoByte(x, -1);
        for (int kind = 0; kind < 3; kind++) {
            due("number(0, " + kind + ")", x.number(0, kind), -1);
        }
    }

    static void promise01_noKeyIsAnEmptyOneForARecord() {
        Order x = new Order();
        due("add(0)", x.add(0), 1);
        x.key();
        due("add(0) of an empty key", x.add(0), 2);
        due("compare(1, 2)", x.compare(1, 2), 0);
    }

    static void promise01_noRecords() {
        Order x = new Order();
        due("browse(1, 0)", x.browse(1, 0), 0);
        due("browse(0, 0)", x.browse(0, 0), 0);
        due("seek()", x.seek(), 0);
        due("compare(1, 1)", x.compare(1, 1), -2);
        due("compare(0, 0)", x.compare(0, 0), -2);
        due("equal(1, 0)", x.equal(1, 0), 0);
        due("equal(0, 0)", x.equal(0, 0), 0);
        due("file()", x.file(), 0);
        due("the first record", x.add(0), 1);
    }

    static void promise01_languageIs0() {
        due("language(0)", new Order().language(0), 0);
        due("language(3)", new Order().language(3), 0);
        for (String[] articles : ARTICLES) {
            for (String article : articles) {
                dueKeyOf(new Order(), article + " x", 3, article, 0, 3, "x", 0);
            }
        }
    }

    static void promise01_romanNumeralsAreNotOn() {
        due("roman(false)", new Order().roman(false), false);
        due("roman(true)", new Order().roman(true), false);
        dueKeyOf(new Order(), "i", 3, "i", 0);
    }

    static void promise01_everyMarkIsIgnoredAtFirst() {
        for (int c = 33; c <= 126; c++) {
            if (isMark(c)) {
                dueKeyOf(new Order(), "a" + (char) c + "b", 3, "ab", 0);
                due("mark(" + c + ", 0)", new Order().mark(c, 0), 0);
            }
        }
    }

    static void promise01_anotherObjectsCallsAreNotSeen() {
        Order other = new Order();
        Order x = new Order();
        other.language(1);
        other.roman(true);
        other.mark('-', 1);
        other.record("the x-i", 0);
        other.file();
        other.collect("abc");
        other.skip(2);
        due("skip(1)", x.skip(1), false);
        dueNoByte(x, 0);
        due("compare(1, 1)", x.compare(1, 1), -2);
        dueKeyOf(x, "the x-i", 3, "the", 0, 3, "xi", 0);
        due("file()", x.file(), 0);
    }

    // Promise 2: title.

    /** "A sign (the lowest eight bits) is collected": what stands above them wraps around. */
    static void promise02_theLowestEightBits() {
        for (int c = 0; c < 256; c++) {
            Order x = new Order();
            int due = thirdByteWith(x, c);
            for (int same : new int[] {c + 256, c - 256, c + 0x7fffff00, c + MIN, c - 65536, c + 0x01010100}) {
                due("at(2) with title(" + same + ")", thirdByteWith(x, same), due);
            }
        }
    }

    static void promise02_minus1IsNoSign() {
        Order x = new Order();
        for (int c : new int[] {-1, MAX, MIN}) {
            x.collect("a");
            x.title(c);
            x.collect("b");
            dueKey(x, 3, "ab", 0);
        }
    }

    /** "80 signs at most": the last one that has room. */
    static void promise02_the80thIsCollected() {
        Order x = new Order();
        x.collect("a".repeat(79));
        due("skip(80) of 79", x.skip(80), false);
        x.title('b');
        due("skip(80) of 80", x.skip(80), true);
        due("skip(0)", x.skip(0), true);
        dueKey(x, 3, "a".repeat(79), "b", 0);
    }

    /** "beyond 80 it is lost": the first one that has no room. */
    static void promise02_the81stIsLost() {
        Order x = new Order();
        x.collect("a".repeat(80));
        x.title('b');
        due("skip(81)", x.skip(81), false);
        dueKey(x, 3, "a".repeat(80), 0);
    }

    static void promise02_manyBeyond80AreLost() {
        Order x = new Order();
        x.collect("1".repeat(80) + " 2".repeat(150));
        dueKey(x, 2, 80, "1".repeat(80));
    }

    static void promise02_whatIsLostDoesNotComeBehindAKey() {
        Order x = new Order();
        x.collect("a".repeat(80) + "bc");
        x.key();
        due("skip(1)", x.skip(1), false);
        dueKeyOf(x, "d".repeat(81), 3, "d".repeat(80), 0);
    }

    static void promise02_spacesAndMarksCountAmongThe80() {
        dueKeyOf(new Order(), " ".repeat(79) + "bc", 3, "b", 0);
        dueKeyOf(new Order(), "-".repeat(79) + "bc", 3, "b", 0);
        dueKeyOf(new Order(), "-".repeat(80) + "b");
        Order x = new Order();
        x.mark('-', 1);
        dueKeyOf(x, "-".repeat(79) + "bc", 3, "b", 0);
    }

    /** "others are left out": from the words, for "all that is collected counts". */
    static void promise02_othersCountAmongThe80() {
        dueKeyOf(new Order(), "\u0007".repeat(79) + "bc", 3, "b", 0);
        dueKeyOf(new Order(), "\u00ff".repeat(80) + "b");
    }

    static void promise02_othersAreLeftOut() {
        for (int c = 0; c < 256; c++) {
            if (c < 32 || c > 126) {
                dueKeyOf(new Order(), "a" + (char) c + "b", 3, "ab", 0);
                dueKeyOf(new Order(), "1" + (char) c + "2", 2, 2, "12");
                dueKeyOf(new Order(), "" + (char) c);
            }
        }
    }

    /** The neighbours of the letters and the digits are MARKS. */
    static void promise02_firstAndLastLettersAndDigits() {
        dueKeyOf(new Order(), "@A`a", 3, "aa", 0);
        dueKeyOf(new Order(), "Z[z{", 3, "zz", 0);
        dueKeyOf(new Order(), "/09:", 2, 1, "9");
        dueKeyOf(new Order(), "@[`{/:");
    }

    static void promise02_capitalsAreSmallLetters() {
        dueKeyOf(new Order(), "ABCDEFGHIJKLMNOPQRSTUVWXYZ", 3, "abcdefghijklmnopqrstuvwxyz", 0);
        dueKeyOf(new Order(), "abcdefghijklmnopqrstuvwxyz", 3, "abcdefghijklmnopqrstuvwxyz", 0);
    }

    static void promise02_aSignDoesNotTouchTheLatestKey() {
        Order x = new Order();
        x.keyOf("a");
        x.collect("zz 9");
        dueBytes(x, 3, "a", 0);
        due("number(0, 0)", x.number(0, 0), -1);
    }

    // Promise 3: language.

    static void promise03_theFirstAndTheLastLanguage() {
        Order x = new Order();
        due("language(3)", x.language(3), 0);
        due("language(0)", x.language(0), 3);
        due("language(0) again", x.language(0), 0);
        due("language(1)", x.language(1), 0);
        due("language(2)", x.language(2), 1);
        due("language(2) again", x.language(2), 2);
    }

    /** "NONE, and it stays, if there is none such": too small. */
    static void promise03_below0ItStays() {
        for (int l : new int[] {-1, -2, -256, MIN}) {
            dueRefusedLanguage(l);
        }
    }

    /** "NONE, and it stays, if there is none such": too large. */
    static void promise03_above3ItStays() {
        for (int l : new int[] {4, 5, 256, 257, MAX}) {
            dueRefusedLanguage(l);
        }
    }

    static void promise03_ofLanguage0NoArticleIsLeftOut() {
        Order x = new Order();
        x.language(1);
        x.language(0);
        for (String[] articles : ARTICLES) {
            for (String article : articles) {
                dueKeyOf(x, article + " x", 3, article, 0, 3, "x", 0);
            }
        }
    }

    static void promise03_eachLanguageLeavesOutItsArticlesAlone() {
        for (int l = 1; l <= 3; l++) {
            for (int other = 1; other <= 3; other++) {
                for (String article : ARTICLES[other]) {
                    Order x = new Order();
                    x.language(l);
                    if (l == other) {
                        dueKeyOf(x, article + " x", 3, "x", 0);
                    } else {
                        dueKeyOf(x, article + " x", 3, article, 0, 3, "x", 0);
                    }
                }
            }
        }
    }

    static void promise03_wordsLikeArticlesStay() {
        String[][] like = {{}, {"th", "ann", "thee", "he", "aa", "a1", "nan"}, {"de", "di", "dass", "des", "den", "d"},
            {"l", "lea", "lesx", "las", "lo", "es"}};
        for (int l = 1; l <= 3; l++) {
            Order x = new Order();
            x.language(l);
            for (String word : like[l]) {
                dueKeyOf(x, word + " x", 3, word, 0, 3, "x", 0);
            }
        }
    }

    static void promise03_wordsWithOneOtherLetterStay() {
        for (int l = 1; l <= 3; l++) {
            for (String article : ARTICLES[l]) {
                for (int i = 0; i < article.length(); i++) {
                    Order x = new Order();
                    x.language(l);
                    String word = article.substring(0, i) + "q" + article.substring(i + 1);
                    dueKeyOf(x, word + " x", 3, word, 0, 3, "x", 0);
                }
            }
        }
    }

    /** "and there is another word behind it": here is none. */
    static void promise03_anArticleAloneStays() {
        for (int l = 1; l <= 3; l++) {
            for (String article : ARTICLES[l]) {
                Order x = new Order();
                x.language(l);
                dueKeyOf(x, article, 3, article, 0);
                dueKeyOf(x, "  " + article + "  ", 3, article, 0);
                dueKeyOf(x, "-" + article + " - ?", 3, article, 0);
                dueKeyOf(x, article + " \u0001 \u00ff", 3, article, 0);
            }
        }
    }

    static void promise03_anArticleBeforeMarksThatAreSpacesStays() {
        Order x = new Order();
        x.language(2);
        x.mark('-', 1);
        dueKeyOf(x, "das---", 3, "das", 0);
        dueKeyOf(x, "--das-9", 2, 1, "9");
    }

    static void promise03_theWordBehindMayBeANumberOrAnArticle() {
        Order x = new Order();
        x.language(1);
        dueKeyOf(x, "the 0", 2, 1, "0");
        dueKeyOf(x, "the the", 3, "the", 0);
        dueKeyOf(x, "a an the", 3, "an", 0, 3, "the", 0);
        x.roman(true);
        dueKeyOf(x, "a i", 2, 1, "1");
    }

    static void promise03_anArticleThatIsNotTheFirstWordStays() {
        Order x = new Order();
        x.language(3);
        dueKeyOf(x, "x les y", 3, "x", 0, 3, "les", 0, 3, "y", 0);
        dueKeyOf(x, "1 la", 2, 1, "1", 3, "la", 0);
    }

    static void promise03_theFirstWordIsFoundBehindSpacesAndMarks() {
        Order x = new Order();
        x.language(1);
        dueKeyOf(x, "  THE x", 3, "x", 0);
        dueKeyOf(x, "-- 'The' x", 3, "x", 0);
        dueKeyOf(x, "t.h-E x", 3, "x", 0);
        dueKeyOf(x, "\u0001th\u0080e x", 3, "x", 0);
        dueKeyOf(x, "the-x y", 3, "thex", 0, 3, "y", 0);
        x.mark('-', 1);
        dueKeyOf(x, "the-x y", 3, "x", 0, 3, "y", 0);
        dueKeyOf(x, "th-e x", 3, "th", 0, 3, "e", 0, 3, "x", 0);
    }

    static void promise03_anArticleBehindWhichOnlyLostSignsComeStays() {
        Order x = new Order();
        x.language(1);
        dueKeyOf(x, " ".repeat(77) + "the x", 3, "the", 0);
        dueKeyOf(x, " ".repeat(75) + "the xy", 3, "x", 0);
    }

    static void promise03_whatWasCollectedBeforeIsOfTheNewLanguageToo() {
        Order x = new Order();
        x.collect("the die x");
        x.language(1);
        dueKey(x, 3, "die", 0, 3, "x", 0);
        x.collect("the die x");
        x.language(2);
        dueKey(x, 3, "the", 0, 3, "die", 0, 3, "x", 0);
    }

    // Promise 4: roman.

    static void promise04_whatItWasBefore() {
        Order x = new Order();
        due("roman(false)", x.roman(false), false);
        due("roman(true)", x.roman(true), false);
        due("roman(true) again", x.roman(true), true);
        due("roman(false)", x.roman(false), true);
        due("roman(false) again", x.roman(false), false);
    }

    static void promise04_theSmallestNumberIs1() {
        dueKeyOf(roman(), "i", 2, 1, "1");
        dueKeyOf(roman(), "I", 2, 1, "1");
    }

    /** "the NUMBER 1 .. 3999": 4000 is too large. */
    static void promise04_theLargestNumberIs3999() {
        dueKeyOf(roman(), "mmmcmxcix", 2, 4, "3999");
        for (String word : new String[] {"mmmm", "mmmmi", "mmmmm", "m".repeat(80)}) {
            dueKeyOf(roman(), word, 3, word, 0);
        }
    }

    static void promise04_theLongestFormHas15Letters() {
        dueKeyOf(roman(), "MMMdccclxxxviii", 2, 4, "3888");
        dueKeyOf(roman(), "mmmdccclxxxviiii", 3, "mmmdccclxxxviiii", 0);
    }

    static void promise04_everyUsualForm() {
        for (Map.Entry<String, Integer> form : usualForms().entrySet()) {
            String digits = Integer.toString(form.getValue());
            dueKeyOf(roman(), form.getKey(), 2, digits.length(), digits);
        }
    }

    /** "of which it is the usual form": all rows of up to five of the letters that are none are words. */
    static void promise04_noOtherForm() {
        Map<String, Integer> usual = usualForms();
        for (int length = 1; length <= 5; length++) {
            int rows = (int) Math.pow(7, length);
            for (int row = 0; row < rows; row++) {
                StringBuilder word = new StringBuilder();
                for (int i = 0, rest = row; i < length; i++, rest /= 7) {
                    word.append("ivxlcdm".charAt(rest % 7));
                }
                if (!usual.containsKey(word.toString())) {
                    Order x = roman();
                    due(word + ", how many bytes", x.keyOf(word.toString()), length + 2);
                    due(word + ", its first byte", x.at(0), 3);
                }
            }
        }
    }

    static void promise04_aFormWithALetterOrDigitMoreIsAWord() {
        for (String word : new String[] {"xiva", "axiv", "xaiv", "xiv1", "1xiv", "x1v", "xiv0", "0i"}) {
            dueKeyOf(roman(), word, 3, word, 0);
        }
    }

    static void promise04_digitsStayDigits() {
        Order x = roman();
        dueKeyOf(x, "0 0014", 2, 1, "0", 2, 2, "14");
        due("number(0, 1)", x.number(0, 1), 0);
        due("number(1, 1)", x.number(1, 1), 0);
    }

    static void promise04_notOnItIsAWord() {
        Order x = roman();
        x.roman(false);
        dueKeyOf(x, "mix", 3, "mix", 0);
    }

    static void promise04_onAtTheKeyCounts() {
        Order x = new Order();
        x.collect("mix");
        x.roman(true);
        dueKey(x, 2, 4, "1009");
        x.collect("mix");
        x.roman(false);
        dueKey(x, 3, "mix", 0);
    }

    static void promise04_aNumeralThatMarksDivide() {
        Order x = roman();
        dueKeyOf(x, "X.I-V", 2, 2, "14");
        x.mark('.', 1);
        dueKeyOf(x, "X.I-V", 2, 2, "10", 2, 1, "4");
    }

    // Promise 5: mark.

    static void promise05_theFirstAndTheLastMark() {
        for (int c : new int[] {33, 126}) {
            Order x = new Order();
            due("mark(" + c + ", 1)", x.mark(c, 1), 0);
            dueKeyOf(x, "a" + (char) c + "b", 3, "a", 0, 3, "b", 0);
        }
    }

    /** "NONE if it is no MARK": too small, too large. */
    static void promise05_below33AndAbove126AreNoMarks() {
        for (int c : new int[] {32, 31, 10, 1, 0, -1, -211, MIN, 127, 128, 255, 256, 300, 256 + '-', MIN + '-', MAX}) {
            Order x = new Order();
            due("mark(" + c + ", 0)", x.mark(c, 0), -1);
            due("mark(" + c + ", 1)", x.mark(c, 1), -1);
            dueKeyOf(x, "a-b", 3, "ab", 0);
            dueKeyOf(x, "a" + (char) (c & 255) + "b", wordsOf("a" + (char) (c & 255) + "b"));
        }
    }

    /** "NONE if it is no MARK": letters and digits are none. */
    static void promise05_lettersAndDigitsAreNoMarks() {
        for (int c = 33; c <= 126; c++) {
            if (!isMark(c)) {
                Order x = new Order();
                due("mark(" + c + ", 0)", x.mark(c, 0), -1);
                due("mark(" + c + ", 1)", x.mark(c, 1), -1);
                due("key()", x.keyOf("x" + (char) c + "x"), 5);
            }
        }
    }

    static void promise05_theNeighboursOfLettersAndDigitsAreMarks() {
        for (int c : "/:@[`{".toCharArray()) {
            due("mark(" + c + ", 1)", new Order().mark(c, 1), 0);
        }
    }

    /** "or for another number", and the mark stays what it is. */
    static void promise05_anotherNumberIsRefused() {
        for (int as : new int[] {-1, 2, 3, 256, 257, MAX, MIN}) {
            Order x = new Order();
            due("mark('-', " + as + ")", x.mark('-', as), -1);
            dueKeyOf(x, "a-b", 3, "ab", 0);
            x.mark('-', 1);
            due("mark('-', " + as + ")", x.mark('-', as), -1);
            due("mark('a', " + as + ")", x.mark('a', as), -1);
            dueKeyOf(x, "a-b", 3, "a", 0, 3, "b", 0);
            due("mark('-', 0)", x.mark('-', 0), 1);
        }
    }

    static void promise05_whatItWas() {
        Order x = new Order();
        due("mark('-', 0)", x.mark('-', 0), 0);
        due("mark('-', 1)", x.mark('-', 1), 0);
        due("mark('-', 1) again", x.mark('-', 1), 1);
        due("mark('-', 0)", x.mark('-', 0), 1);
        due("mark('-', 0) again", x.mark('-', 0), 0);
    }

    static void promise05_eachMarkIsToldAlone() {
        for (int c = 33; c <= 126; c++) {
            if (!isMark(c)) {
                continue;
            }
            Order x = new Order();
            x.mark(c, 1);
            for (int other = 33; other <= 126; other++) {
                if (isMark(other)) {
                    due("mark(" + other + ", 0)", x.mark(other, 0), other == c ? 1 : 0);
                }
            }
        }
    }

    /** "left out, what stands beside it comes together". */
    static void promise05_besideAnIgnoredMarkItComesTogether() {
        dueKeyOf(new Order(), "1,000.00", 2, 6, "100000");
        dueKeyOf(new Order(), "a--b", 3, "ab", 0);
        dueKeyOf(new Order(), "0-a", 3, "0a", 0);
        dueKeyOf(new Order(), "a - b", 3, "a", 0, 3, "b", 0);
        dueKeyOf(new Order(), "-a-", 3, "a", 0);
        dueKeyOf(new Order(), "---");
    }

    static void promise05_aSpaceAtTheEndsOrTwiceMakesNoWord() {
        Order x = new Order();
        x.mark('-', 1);
        dueKeyOf(x, "--a- -b--", 3, "a", 0, 3, "b", 0);
        dueKeyOf(x, "---");
        dueKeyOf(x, "-".repeat(80));
        dueKeyOf(x, "1-000", 2, 1, "1", 2, 1, "0");
    }

    static void promise05_fromNowOnStandsBehindAKey() {
        Order x = new Order();
        x.mark('-', 1);
        x.keyOf("a-b");
        dueKeyOf(x, "a-b", 3, "a", 0, 3, "b", 0);
        x.record("c", 0);
        x.file();
        due("mark('-', 0)", x.mark('-', 0), 1);
    }

    static void promise05_whatItIsAtTheKeyCounts() {
        Order x = new Order();
        x.collect("a-b");
        x.mark('-', 1);
        dueKey(x, 3, "a", 0, 3, "b", 0);
        x.collect("a-b");
        x.mark('-', 0);
        dueKey(x, 3, "ab", 0);
    }

    // Promise 6: skip.

    /** "false if there are not so many collected": one too many. */
    static void promise06_moreThanAreCollected() {
        Order x = new Order();
        due("skip(1) of none", x.skip(1), false);
        x.collect("abc");
        due("skip(4) of 3", x.skip(4), false);
        due("skip(MAX)", x.skip(MAX), false);
        dueKey(x, 3, "abc", 0);
    }

    static void promise06_asManyAsAreCollected() {
        Order x = new Order();
        x.collect("abc");
        due("skip(3) of 3", x.skip(3), true);
        dueKey(x);
    }

    /** "or it is below 0". */
    static void promise06_below0() {
        for (int count : new int[] {-1, -80, MIN}) {
            Order x = new Order();
            due("skip(" + count + ") of none", x.skip(count), false);
            x.collect("abc");
            due("skip(" + count + ")", x.skip(count), false);
            dueKey(x, 3, "abc", 0);
        }
    }

    static void promise06_ofNoneNoneMayBeTold() {
        Order x = new Order();
        due("skip(0) of none", x.skip(0), true);
        due("key()", x.key(), 0);
    }

    /** "0: none are told any more": then an article is left out again. */
    static void promise06_0TellsNoneAnyMore() {
        Order x = new Order();
        x.language(1);
        x.collect("the wall");
        due("skip(6)", x.skip(6), true);
        due("skip(0)", x.skip(0), true);
        dueKey(x, 3, "wall", 0);
        x.collect("no wall");
        x.skip(3);
        x.skip(0);
        dueKey(x, 3, "no", 0, 3, "wall", 0);
    }

    static void promise06_aRefusedCallLeavesWhatWasTold() {
        for (int count : new int[] {9, 81, MAX, -1, MIN}) {
            Order x = new Order();
            x.language(1);
            x.collect("the wall");
            x.skip(1);
            due("skip(" + count + ") of 8", x.skip(count), false);
            dueKey(x, 3, "he", 0, 3, "wall", 0);
        }
    }

    static void promise06_theLatestCountIsTold() {
        Order x = new Order();
        x.collect("abcdef");
        x.skip(5);
        x.skip(2);
        dueKey(x, 3, "cdef", 0);
        x.collect("abcdef");
        x.skip(2);
        x.skip(5);
        dueKey(x, 3, "f", 0);
    }

    /** "For the next key": the one behind it has all its signs. */
    static void promise06_forTheNextKeyAlone() {
        Order x = new Order();
        x.collect("abc");
        x.skip(1);
        x.key();
        dueKeyOf(x, "abc", 3, "abc", 0);
        x.collect("abc");
        x.skip(3);
        x.key();
        due("skip(1) of none", x.skip(1), false);
        x.language(1);
        dueKeyOf(x, "the wall", 3, "wall", 0);
    }

    static void promise06_whatIsCollectedLaterIsNotLeftOut() {
        Order x = new Order();
        x.collect("ab");
        x.skip(2);
        x.collect("cd");
        dueKey(x, 3, "cd", 0);
    }

    static void promise06_ofAFullTitle() {
        Order x = new Order();
        x.collect("a".repeat(79) + "bc");
        due("skip(81)", x.skip(81), false);
        due("skip(80)", x.skip(80), true);
        due("skip(79)", x.skip(79), true);
        dueKey(x, 3, "b", 0);
        x.collect("a".repeat(80));
        x.skip(80);
        dueKey(x);
    }

    /** "whatever they are (all that is collected counts)": spaces, marks, and what makes no word. */
    static void promise06_whateverTheyAre() {
        Order x = new Order();
        x.collect(" -a 7");
        due("skip(2)", x.skip(2), true);
        dueKey(x, 3, "a", 0, 2, 1, "7");
        x.collect("  --  7");
        due("skip(8) of 7", x.skip(8), false);
        due("skip(6)", x.skip(6), true);
        dueKey(x, 2, 1, "7");
        x.mark('-', 1);
        x.collect("--78");
        x.skip(3);
        dueKey(x, 2, 1, "8");
    }

    static void promise06_othersCountToo() {
        Order x = new Order();
        x.collect("\u0001\u00ff78");
        due("skip(5) of 4", x.skip(5), false);
        due("skip(3)", x.skip(3), true);
        dueKey(x, 2, 1, "8");
        x.collect("\u0000");
        due("skip(1)", x.skip(1), true);
        dueKey(x);
    }

    /** "or, if none were told, its first word": where some were told, no article is left out. */
    static void promise06_thenNoArticleIsLeftOut() {
        Order x = new Order();
        x.language(1);
        x.collect("x the wall");
        x.skip(2);
        dueKey(x, 3, "the", 0, 3, "wall", 0);
        x.collect(" the wall");
        x.skip(1);
        dueKey(x, 3, "the", 0, 3, "wall", 0);
        x.collect("-the wall");
        x.skip(1);
        dueKey(x, 3, "the", 0, 3, "wall", 0);
    }

    static void promise06_inTheMiddleOfAWord() {
        Order x = new Order();
        x.collect("a007");
        x.skip(1);
        dueKey(x, 2, 1, "7");
        x.collect("1007");
        x.skip(1);
        dueKey(x, 2, 1, "7");
        x.roman(true);
        x.collect("axiv");
        x.skip(1);
        dueKey(x, 2, 2, "14");
    }

    // Promise 7: key.

    static void promise07_ofNothing() {
        Order x = new Order();
        due("key()", x.key(), 0);
        dueNoByte(x, 0);
        due("key() again", x.key(), 0);
    }

    static void promise07_ofATitleWithoutWords() {
        dueKeyOf(new Order(), " ");
        dueKeyOf(new Order(), " - ");
        dueKeyOf(new Order(), " ".repeat(80));
    }

    /** "nothing is collected ... any more". */
    static void promise07_nothingIsCollectedAnyMore() {
        Order x = new Order();
        due("key()", x.keyOf("abc"), 5);
        due("skip(1)", x.skip(1), false);
        due("key() again", x.key(), 0);
        dueNoByte(x, 0);
        dueKeyOf(x, "d", 3, "d", 0);
    }

    /** "nothing is ... told to be LEFT OUT any more". */
    static void promise07_nothingIsToldToBeLeftOutAnyMore() {
        Order x = new Order();
        x.collect("abc");
        x.skip(2);
        dueKey(x, 3, "c", 0);
        dueKeyOf(x, "abc", 3, "abc", 0);
    }

    static void promise07_languageRomanAndRecordsStay() {
        Order x = new Order();
        x.language(2);
        x.roman(true);
        x.record("a", 0);
        x.file();
        x.key();
        due("language(2)", x.language(2), 2);
        due("roman(true)", x.roman(true), true);
        due("browse(1, 0)", x.browse(1, 0), 1);
        due("add(0)", x.add(0), 2);
    }

    static void promise07_wordsOfOneSign() {
        dueKeyOf(new Order(), "a", 3, "a", 0);
        dueKeyOf(new Order(), "0", 2, 1, "0");
        dueKeyOf(new Order(), "9", 2, 1, "9");
    }

    static void promise07_aWordOf80Signs() {
        dueKeyOf(new Order(), "z".repeat(80), 3, "z".repeat(80), 0);
        dueKeyOf(new Order(), "1".repeat(79) + "z", 3, "1".repeat(79), "z", 0);
    }

    static void promise07_aNumberOf80Digits() {
        dueKeyOf(new Order(), "9".repeat(80), 2, 80, "9".repeat(80));
        dueKeyOf(new Order(), "0" + "9".repeat(79), 2, 79, "9".repeat(79));
    }

    static void promise07_40Words() {
        Object[] letters = new Object[120];
        Object[] zeros = new Object[120];
        for (int i = 0; i < 120; i += 3) {
            letters[i] = 3;
            letters[i + 1] = "m";
            letters[i + 2] = 0;
            zeros[i] = 2;
            zeros[i + 1] = 1;
            zeros[i + 2] = "0";
        }
        dueKeyOf(new Order(), "m ".repeat(40), letters);
        dueKeyOf(new Order(), " m".repeat(40), letters);
        dueKeyOf(new Order(), "0 ".repeat(40), zeros);
    }

    static void promise07_theLongestKey() {
        Object[] parts = new Object[120];
        for (int i = 0; i < 120; i += 3) {
            parts[i] = 2;
            parts[i + 1] = 4;
            parts[i + 2] = "1000";
        }
        dueKeyOf(roman(), "m ".repeat(40), parts);
        dueKeyOf(roman(), " m".repeat(40), parts);
    }

    /** "these digits without zeros in front". */
    static void promise07_zerosInFront() {
        dueKeyOf(new Order(), "007 0100 10", 2, 1, "7", 2, 3, "100", 2, 2, "10");
        dueKeyOf(new Order(), "0".repeat(79) + "9", 2, 1, "9");
        dueKeyOf(new Order(), "00a", 3, "00a", 0);
        dueKeyOf(new Order(), "a00", 3, "a00", 0);
    }

    /** "0 is the digit 0". */
    static void promise07_zerosAlone() {
        dueKeyOf(new Order(), "00", 2, 1, "0");
        dueKeyOf(new Order(), "0".repeat(80), 2, 1, "0");
        dueKeyOf(new Order(), "0 00 000", 2, 1, "0", 2, 1, "0", 2, 1, "0");
    }

    /** "WORDS are the longest rows of letters and digits": no space makes an empty one. */
    static void promise07_spacesInFrontBehindAndTwice() {
        dueKeyOf(new Order(), "  a  b1  2  ", 3, "a", 0, 3, "b1", 0, 2, 1, "2");
    }

    /** "at most 512 calls": the last of them answers as the first. */
    static void promise07_asThe512thCall() {
        Order x = new Order();
        x.collect("ab".repeat(255));
        x.title('c');
        due("key() as call 512", x.key(), 82);
    }

    // Promise 8: at.

    /** "if there is none such": too small. */
    static void promise08_below0() {
        Order x = new Order();
        x.keyOf("ab");
        for (int i : new int[] {-1, -4, -256, MIN}) {
            dueNoByte(x, i);
        }
    }

    /** "if there is none such": too large. */
    static void promise08_behindTheLastByte() {
        Order x = new Order();
        x.keyOf("ab");
        due("at(0)", x.at(0), 3);
        due("at(3)", x.at(3), 0);
        for (int i : new int[] {4, 5, 80, 239, 240, 241, 256, MAX}) {
            dueNoByte(x, i);
        }
    }

    static void promise08_ofAnEmptyKey() {
        Order x = new Order();
        x.keyOf("ab");
        x.key();
        dueNoByte(x, 0);
        dueNoByte(x, -1);
        dueNoByte(x, 1);
    }

    static void promise08_withoutAnyKey() {
        Order x = new Order();
        x.collect("ab");
        dueNoByte(x, 0);
    }

    static void promise08_ofAShorterKeyThanTheOneBefore() {
        Order x = new Order();
        x.keyOf("abcdef");
        x.keyOf("a");
        dueBytes(x, 3, "a", 0);
        dueNoByte(x, 3);
        dueNoByte(x, 4);
    }

    static void promise08_ofTheLongestKey() {
        Order x = roman();
        due("key()", x.keyOf("m ".repeat(40)), 240);
        due("at(0)", x.at(0), 2);
        due("at(239)", x.at(239), '0');
        dueNoByte(x, 240);
    }

    static void promise08_nothingChangesWhereItThrows() {
        Order x = new Order();
        x.keyOf("a 7");
        x.collect("b");
        dueNoByte(x, 6);
        dueBytes(x, 3, "a", 0, 2, 1, "7");
        due("number(0, 2)", x.number(0, 2), 7);
        dueKey(x, 3, "b", 0);
    }

    // Promise 9: number.

    /** "NONE if there is none such": too small. */
    static void promise09_below0() {
        Order x = new Order();
        x.keyOf("7 8");
        for (int i : new int[] {-1, -2, MIN}) {
            dueNoNumber(x, i);
        }
    }

    /** "NONE if there is none such": too large. */
    static void promise09_behindTheLastNumber() {
        Order x = new Order();
        x.keyOf("7 a 8 b");
        due("number(0, 2)", x.number(0, 2), 7);
        due("number(1, 2)", x.number(1, 2), 8);
        for (int i : new int[] {2, 3, 39, 40, 41, MAX}) {
            dueNoNumber(x, i);
        }
    }

    static void promise09_ofAnEmptyKey() {
        Order x = new Order();
        x.keyOf("7");
        x.key();
        dueNoNumber(x, 0);
    }

    static void promise09_ofAKeyOfWordsAlone() {
        Order x = new Order();
        x.keyOf("7 8");
        x.keyOf("a 1a a1");
        dueNoNumber(x, 0);
    }

    static void promise09_withoutAnyKey() {
        Order x = new Order();
        x.collect("7");
        dueNoNumber(x, 0);
    }

    /** "or for another kind". */
    static void promise09_anotherKind() {
        Order x = new Order();
        x.keyOf("7");
        for (int kind : new int[] {-1, 3, 4, 256, 257, MAX, MIN}) {
            due("number(0, " + kind + ")", x.number(0, kind), -1);
            due("number(1, " + kind + ")", x.number(1, kind), -1);
        }
    }

    static void promise09_0HasOneDigit() {
        Order x = new Order();
        x.keyOf("0 000");
        dueNumber(x, 0, 1, 0, 0);
        dueNumber(x, 1, 1, 0, 0);
    }

    /** "its last nine digits as a number": nine, and one more. */
    static void promise09_theLastNineDigits() {
        Order x = new Order();
        x.keyOf("99999999 999999999 1999999998 1000000000 1000000007 0999999999");
        dueNumber(x, 0, 8, 0, 99999999);
        dueNumber(x, 1, 9, 0, 999999999);
        dueNumber(x, 2, 10, 0, 999999998);
        dueNumber(x, 3, 10, 0, 0);
        dueNumber(x, 4, 10, 0, 7);
        dueNumber(x, 5, 9, 0, 999999999);
    }

    static void promise09_ofANumberOf80Digits() {
        Order x = new Order();
        x.keyOf("9".repeat(71) + "012345678");
        dueNumber(x, 0, 80, 0, 12345678);
    }

    static void promise09_wasRoman() {
        Order x = roman();
        x.keyOf("i 1 mmmcmxcix 3999 x ix c xcix");
        dueNumber(x, 0, 1, 1, 1);
        dueNumber(x, 1, 1, 0, 1);
        dueNumber(x, 2, 4, 1, 3999);
        dueNumber(x, 3, 4, 0, 3999);
        dueNumber(x, 4, 2, 1, 10);
        dueNumber(x, 5, 1, 1, 9);
        dueNumber(x, 6, 3, 1, 100);
        dueNumber(x, 7, 2, 1, 99);
        x.keyOf("1 i");
        dueNumber(x, 0, 1, 0, 1);
        dueNumber(x, 1, 1, 1, 1);
    }

    static void promise09_wasRomanWhenTheKeyWasMade() {
        Order x = roman();
        x.keyOf("v");
        x.roman(false);
        dueNumber(x, 0, 1, 1, 5);
        x.keyOf("v");
        x.roman(true);
        dueNoNumber(x, 0);
    }

    static void promise09_ofAKeyOf40Numbers() {
        Order x = new Order();
        x.keyOf("1 ".repeat(39) + "8 ");
        due("number(38, 2)", x.number(38, 2), 1);
        due("number(39, 2)", x.number(39, 2), 8);
        dueNoNumber(x, 40);
    }

    static void promise09_ofWhatIsLeftOutThereIsNone() {
        Order x = new Order();
        x.collect("7 8");
        x.skip(1);
        x.key();
        dueNumber(x, 0, 1, 0, 8);
        dueNoNumber(x, 1);
    }

    // Promise 10: add.

    /** "0 if there is no such RANK": too small, too large; no number is used up. */
    static void promise10_noSuchRank() {
        Order x = new Order();
        x.keyOf("a");
        for (int rank : new int[] {-1, -4, MIN, 4, 5, 256, MAX}) {
            due("add(" + rank + ")", x.add(rank), 0);
        }
        due("file()", x.file(), 0);
        due("add(0)", x.add(0), 1);
        due("add(4)", x.add(4), 0);
        due("add(3)", x.add(3), 2);
    }

    static void promise10_theFirstAndTheLastRank() {
        Order x = new Order();
        due("add(3)", x.add(3), 1);
        due("add(0)", x.add(0), 2);
        x.file();
        dueList(x, 2, 1);
    }

    /** "or there are 60". */
    static void promise10_the61st() {
        Order x = new Order();
        for (int n = 1; n <= 60; n++) {
            due("add(0)", x.add(0), n);
        }
        for (int rank = -1; rank <= 4; rank++) {
            due("add(" + rank + ") beyond 60", x.add(rank), 0);
        }
        due("compare(60, 60)", x.compare(60, 60), 0);
        due("compare(61, 60)", x.compare(61, 60), -2);
        due("file()", x.file(), 60);
        due("add(0) when 60 are filed", x.add(0), 0);
        due("file() again", x.file(), 60);
    }

    /** "the latest key (which may be empty)". */
    static void promise10_anEmptyKey() {
        Order x = new Order();
        x.record("a", 0);
        x.key();
        due("add(0)", x.add(0), 2);
        due("compare(2, 1)", x.compare(2, 1), -1);
        due("compare(2, 2)", x.compare(2, 2), 0);
    }

    static void promise10_theSameKeyMoreThanOnce() {
        Order x = new Order();
        x.keyOf("a");
        due("add(0)", x.add(0), 1);
        due("add(0) again", x.add(0), 2);
        due("compare(1, 2)", x.compare(1, 2), 0);
    }

    static void promise10_whatIsCollectedIsNotInIt() {
        Order x = new Order();
        x.record("b", 0);
        x.collect("a");
        due("add(0)", x.add(0), 2);
        due("compare(1, 2)", x.compare(1, 2), 0);
        dueKey(x, 3, "a", 0);
    }

    static void promise10_aRecordKeepsItsKey() {
        Order x = new Order();
        x.record("b", 0);
        x.record("c", 0);
        x.keyOf("a");
        due("compare(1, 2)", x.compare(1, 2), -1);
        x.add(0);
        due("compare(3, 1)", x.compare(3, 1), -1);
    }

    static void promise10_theLongestKey() {
        Order x = roman();
        x.record("m ".repeat(40), 0);
        x.record("m ".repeat(39) + "c", 0);
        x.record("m ".repeat(40), 0);
        due("compare(1, 2)", x.compare(1, 2), 1);
        due("compare(1, 3)", x.compare(1, 3), 0);
    }

    // Promise 11: file.

    static void promise11_noRecords() {
        Order x = new Order();
        due("file()", x.file(), 0);
        due("file() again", x.file(), 0);
        due("seek()", x.seek(), 0);
    }

    static void promise11_oneRecord() {
        Order x = new Order();
        x.record("a", 0);
        due("file()", x.file(), 1);
        dueList(x, 1);
    }

    static void promise11_60Records() {
        Order x = new Order();
        int[] list = new int[60];
        for (int n = 1; n <= 60; n++) {
            x.record(Integer.toString(100 - n), 0);
            list[60 - n] = n;
        }
        due("file()", x.file(), 60);
        dueList(x, list);
    }

    static void promise11_fileAgainWithoutMoreRecords() {
        Order x = new Order();
        x.record("b", 0);
        x.record("a", 0);
        due("file()", x.file(), 2);
        due("file() again", x.file(), 2);
        dueList(x, 2, 1);
    }

    /** "as it was FILED latest (those that came later are not in it)". */
    static void promise11_thoseThatCameLater() {
        Order x = new Order();
        x.record("b", 1);
        x.record("d", 0);
        x.file();
        x.record("a", 0);
        x.record("b", 0);
        x.record("c", 0);
        x.record("e", 0);
        x.record("b", 1);
        dueList(x, 1, 2);
        due("file()", x.file(), 7);
        dueList(x, 3, 4, 1, 7, 5, 2, 6);
    }

    /** "of the same key by RANK, then by number". */
    static void promise11_ofTheSameKey() {
        Order x = new Order();
        x.keyOf("a");
        for (int rank : new int[] {3, 2, 1, 0, 0, 1, 2, 3}) {
            x.add(rank);
        }
        due("file()", x.file(), 8);
        dueList(x, 4, 5, 3, 6, 2, 7, 1, 8);
    }

    static void promise11_aKeyGoesBeforeARank() {
        Order x = new Order();
        x.record("b", 0);
        x.record("a", 3);
        x.file();
        dueList(x, 2, 1);
    }

    static void promise11_anEmptyKeyIsTheFirst() {
        Order x = new Order();
        x.record("0", 0);
        x.record("a", 0);
        x.record("", 3);
        x.file();
        dueList(x, 3, 1, 2);
    }

    // Promise 12: browse.

    static void promise12_beforeTheFirstAndBehindTheLast() {
        Order x = abcFiled();
        due("browse(2, -1)", x.browse(2, -1), 0);
        due("browse(1, 1)", x.browse(1, 1), 0);
        due("browse(2, 3)", x.browse(2, 3), 0);
        due("browse(1, -3)", x.browse(1, -3), 0);
        due("browse(3, 2)", x.browse(3, 2), 0);
        due("browse(3, -2)", x.browse(3, -2), 0);
    }

    static void promise12_theFirstAndTheLast() {
        Order x = abcFiled();
        due("browse(2, 2)", x.browse(2, 2), 1);
        due("browse(1, -2)", x.browse(1, -2), 2);
        due("browse(3, 1)", x.browse(3, 1), 1);
        due("browse(3, -1)", x.browse(3, -1), 2);
    }

    static void promise12_0PlacesIsItself() {
        Order x = abcFiled();
        for (int from = 1; from <= 3; from++) {
            due("browse(" + from + ", 0)", x.browse(from, 0), from);
        }
    }

    /** So many places that place and i together wrap around. */
    static void promise12_farBeyondTheEnds() {
        Order x = abcFiled();
        for (int from = 1; from <= 3; from++) {
            for (int i : new int[] {MAX, MAX - 1, MIN, MIN + 1, 60, -60, 256, -256}) {
                due("browse(" + from + ", " + i + ")", x.browse(from, i), 0);
            }
        }
    }

    /** "0 if ... that one is not in it": there is no such record. */
    static void promise12_fromNoRecord() {
        Order x = abcFiled();
        for (int from : new int[] {0, -1, 4, 60, 61, 257, MAX, MIN}) {
            for (int i : new int[] {0, 1, -1, MAX, MIN}) {
                due("browse(" + from + ", " + i + ")", x.browse(from, i), 0);
            }
        }
    }

    /** "0 if ... that one is not in it": the record came later. */
    static void promise12_fromARecordThatIsNotFiled() {
        Order x = abcFiled();
        x.record("d", 0);
        for (int i = -4; i <= 4; i++) {
            due("browse(4, " + i + ")", x.browse(4, i), 0);
        }
        due("browse(1, 1)", x.browse(1, 1), 0);
        x.file();
        due("browse(4, -1)", x.browse(4, -1), 1);
        due("browse(1, 1)", x.browse(1, 1), 4);
    }

    static void promise12_beforeAnythingIsFiled() {
        Order x = new Order();
        x.record("a", 0);
        due("browse(1, 0)", x.browse(1, 0), 0);
    }

    static void promise12_60Places() {
        Order x = new Order();
        for (int n = 1; n <= 60; n++) {
            x.add(0);
        }
        x.file();
        due("browse(1, 59)", x.browse(1, 59), 60);
        due("browse(60, -59)", x.browse(60, -59), 1);
        due("browse(1, 60)", x.browse(1, 60), 0);
        due("browse(60, -60)", x.browse(60, -60), 0);
    }

    // Promise 13: seek.

    static void promise13_beforeAnythingIsFiled() {
        Order x = new Order();
        x.record("a", 0);
        due("seek()", x.seek(), 0);
    }

    /** "0 if there is none": every record is before the key. */
    static void promise13_behindTheLast() {
        Order x = abcFiled();
        x.keyOf("c c");
        due("seek() of c c", x.seek(), 0);
        x.keyOf("ca");
        due("seek() of ca", x.seek(), 0);
        x.keyOf("c");
        due("seek() of c", x.seek(), 1);
    }

    static void promise13_beforeTheFirst() {
        Order x = abcFiled();
        x.keyOf("99");
        due("seek() of 99", x.seek(), 2);
    }

    static void promise13_anEmptyKeyFindsTheFirst() {
        Order x = abcFiled();
        x.key();
        due("seek()", x.seek(), 2);
    }

    static void promise13_withoutAnyKey() {
        Order x = new Order();
        x.add(1);
        x.add(0);
        x.file();
        due("seek()", x.seek(), 2);
    }

    /** A record "that is not before the latest key" may have the same one. */
    static void promise13_theSameKeyIsNotBeforeIt() {
        Order x = new Order();
        x.record("b", 3);
        x.record("b", 1);
        x.record("b", 1);
        x.record("a", 0);
        x.file();
        x.keyOf("b");
        due("seek()", x.seek(), 2);
    }

    static void promise13_aKeysBeginningIsBeforeIt() {
        Order x = new Order();
        x.record("a", 0);
        x.record("a b", 0);
        x.file();
        x.keyOf("a b");
        due("seek() of a b", x.seek(), 2);
        x.keyOf("a 1");
        due("seek() of a 1", x.seek(), 2);
        x.keyOf("a");
        due("seek() of a", x.seek(), 1);
    }

    static void promise13_aRecordThatIsNotFiledIsNotFound() {
        Order x = abcFiled();
        x.record("d", 0);
        due("seek()", x.seek(), 0);
        x.record("a", 0);
        due("seek() of a", x.seek(), 2);
        x.file();
        x.keyOf("d");
        due("seek() of d when it is filed", x.seek(), 4);
    }

    static void promise13_the60th() {
        Order x = new Order();
        for (int n = 1; n < 60; n++) {
            x.add(0);
        }
        x.record("a", 0);
        x.file();
        due("seek()", x.seek(), 60);
    }

    static void promise13_whatIsCollectedIsNotTheKey() {
        Order x = abcFiled();
        x.keyOf("b");
        x.collect("c");
        due("seek()", x.seek(), 3);
    }

    // Promise 14: compare.

    /** "-2 if one is not there": too small, too large. */
    static void promise14_oneIsNotThere() {
        Order x = abcFiled();
        for (int none : new int[] {0, -1, 4, 60, 61, 256, 257, MAX, MIN}) {
            due("compare(1, " + none + ")", x.compare(1, none), -2);
            due("compare(" + none + ", 1)", x.compare(none, 1), -2);
            due("compare(" + none + ", " + none + ")", x.compare(none, none), -2);
        }
    }

    static void promise14_withItself() {
        Order x = abcFiled();
        for (int a = 1; a <= 3; a++) {
            due("compare(" + a + ", " + a + ")", x.compare(a, a), 0);
        }
    }

    static void promise14_theFirstAndTheLastRecord() {
        Order x = new Order();
        x.record("b", 0);
        for (int n = 2; n < 60; n++) {
            x.add(0);
        }
        x.record("a", 0);
        due("compare(1, 60)", x.compare(1, 60), 1);
        due("compare(60, 1)", x.compare(60, 1), -1);
        due("compare(59, 1)", x.compare(59, 1), 0);
    }

    /** "one that is another's beginning is before it". */
    static void promise14_theBeginningOfAnother() {
        Order x = new Order();
        for (String text : new String[] {"", "0", "0 0", "0 0 a", "0 0 a a"}) {
            x.record(text, 0);
        }
        dueInOrder(x, 5);
    }

    /** "byte by byte": by a number's digits, how many first, and a word's end before every sign. */
    static void promise14_byteByByte() {
        Order x = new Order();
        String[] inOrder = {"", "0", "1", "9", "10", "99", "100", "9".repeat(70), "1".repeat(71), "0a", "1a", "9z", "a",
            "a 0", "a a", "a0", "a9", "aa", "az", "b", "z", "zz"};
        for (String text : inOrder) {
            x.record(text, 0);
        }
        x.file();
        for (int n = 1; n < inOrder.length; n++) {
            due("compare(" + n + ", " + (n + 1) + ")", x.compare(n, n + 1), -1);
            due("compare(" + (n + 1) + ", " + n + ")", x.compare(n + 1, n), 1);
            due("browse(" + n + ", 1)", x.browse(n, 1), n + 1);
        }
    }

    static void promise14_theLastByteTells() {
        Order x = new Order();
        x.record("a".repeat(79) + "b", 0);
        x.record("a".repeat(80), 0);
        due("compare(1, 2)", x.compare(1, 2), 1);
        due("compare(2, 1)", x.compare(2, 1), -1);
    }

    static void promise14_ranksAreNotCompared() {
        Order x = new Order();
        x.record("a", 0);
        x.record("A", 3);
        due("compare(1, 2)", x.compare(1, 2), 0);
        due("compare(2, 1)", x.compare(2, 1), 0);
    }

    static void promise14_emptyKeysAreTheSame() {
        Order x = new Order();
        x.record("", 0);
        x.record("--", 0);
        due("compare(1, 2)", x.compare(1, 2), 0);
    }

    static void promise14_recordsThatAreNotFiledAreThere() {
        Order x = new Order();
        x.record("b", 0);
        x.record("a", 0);
        due("compare(1, 2)", x.compare(1, 2), 1);
    }

    // Promise 15: equal.

    /** "0 if there is none such": i is too small or too large. */
    static void promise15_noSuchI() {
        Order x = aaFiled();
        for (int i : new int[] {-1, -2, MIN, 2, 3, 60, MAX}) {
            due("equal(1, " + i + ")", x.equal(1, i), 0);
        }
        due("equal(1, 0)", x.equal(1, 0), 3);
        due("equal(1, 1)", x.equal(1, 1), 4);
    }

    /** "0 if there is none such": there is no such record. */
    static void promise15_noSuchRecord() {
        Order x = aaFiled();
        for (int record : new int[] {0, -1, 5, 60, 61, 256, 257, MAX, MIN}) {
            due("equal(" + record + ", 0)", x.equal(record, 0), 0);
            due("equal(" + record + ", -1)", x.equal(record, -1), 0);
        }
    }

    static void promise15_noOtherWithItsKey() {
        Order x = aaFiled();
        due("equal(2, 0)", x.equal(2, 0), 0);
        Order one = new Order();
        one.record("a", 0);
        due("equal(1, 0) of one record", one.equal(1, 0), 0);
    }

    /** "that one left out", wherever it stands among them. */
    static void promise15_thatOneIsLeftOut() {
        Order x = aaFiled();
        due("equal(3, 0)", x.equal(3, 0), 1);
        due("equal(3, 1)", x.equal(3, 1), 4);
        due("equal(3, 2)", x.equal(3, 2), 0);
        due("equal(4, 0)", x.equal(4, 0), 1);
        due("equal(4, 1)", x.equal(4, 1), 3);
        due("equal(4, 2)", x.equal(4, 2), 0);
    }

    /** "by numbers": not by ranks, as THE LIST is. */
    static void promise15_byNumbersNotByRanks() {
        Order x = new Order();
        x.keyOf("a");
        for (int rank = 3; rank >= 0; rank--) {
            x.add(rank);
        }
        x.file();
        due("equal(4, 0)", x.equal(4, 0), 1);
        due("equal(4, 1)", x.equal(4, 1), 2);
        due("equal(4, 2)", x.equal(4, 2), 3);
    }

    static void promise15_emptyKeys() {
        Order x = new Order();
        x.record("", 0);
        x.record("a", 0);
        x.record("", 0);
        due("equal(1, 0)", x.equal(1, 0), 3);
        due("equal(2, 0)", x.equal(2, 0), 0);
    }

    static void promise15_aKeysBeginningIsNotTheSame() {
        Order x = new Order();
        x.record("", 0);
        x.record("a", 0);
        x.record("a a", 0);
        for (int record = 1; record <= 3; record++) {
            due("equal(" + record + ", 0)", x.equal(record, 0), 0);
        }
    }

    static void promise15_recordsThatAreNotFiledAreFound() {
        Order x = new Order();
        x.record("a", 0);
        x.file();
        x.record("a", 0);
        due("equal(1, 0)", x.equal(1, 0), 2);
        due("equal(2, 0)", x.equal(2, 0), 1);
    }

    static void promise15_60WithTheSameKey() {
        Order x = new Order();
        for (int n = 1; n <= 60; n++) {
            x.add(n % 4);
        }
        due("equal(60, 58)", x.equal(60, 58), 59);
        due("equal(1, 58)", x.equal(1, 58), 60);
        due("equal(60, 59)", x.equal(60, 59), 0);
    }

    // What the tests are told with.

    private static void due(String what, long got, long want) {
        if (got != want) {
            wrong++;
            System.out.println(test + ": " + what + " answered " + got + ", due is " + want);
        }
    }

    private static void due(String what, boolean got, boolean want) {
        due(what, got ? 1 : 0, want ? 1 : 0);
    }

    /** The latest key has these bytes and no more; a text stands for its signs. */
    private static void dueBytes(Order x, Object... parts) {
        int place = 0;
        for (Object part : parts) {
            int[] bytes = part instanceof String ? ((String) part).chars().toArray() : new int[] {(Integer) part};
            for (int b : bytes) {
                due("byte " + place + " of " + Arrays.toString(parts), x.at(place), b);
                place++;
            }
        }
        dueNoByte(x, place);
    }

    /** What is collected makes a key of these bytes. */
    private static void dueKey(Order x, Object... parts) {
        int length = 0;
        for (Object part : parts) {
            length += part instanceof String ? ((String) part).length() : 1;
        }
        int got = x.key();
        due("key() of " + Arrays.toString(parts), got, length);
        if (got == length) {
            dueBytes(x, parts);
        }
    }

    private static void dueKeyOf(Order x, String text, Object... parts) {
        x.collect(text);
        dueKey(x, parts);
    }

    private static void dueNoByte(Order x, int i) {
        Class<?> thrown = null;
        try {
            x.at(i);
        } catch (RuntimeException e) {
            thrown = e.getClass();
        }
        due("at(" + i + ") throws ArrayIndexOutOfBoundsException", thrown == ArrayIndexOutOfBoundsException.class, true);
    }

    private static void dueNumber(Order x, int i, int digits, int wasRoman, int tail) {
        due("number(" + i + ", 0)", x.number(i, 0), digits);
        due("number(" + i + ", 1)", x.number(i, 1), wasRoman);
        due("number(" + i + ", 2)", x.number(i, 2), tail);
    }

    private static void dueNoNumber(Order x, int i) {
        dueNumber(x, i, -1, -1, -1);
    }

    private static void dueRefusedLanguage(int l) {
        for (int stays = 0; stays <= 3; stays++) {
            Order x = new Order();
            x.language(stays);
            due("language(" + l + ")", x.language(l), -1);
            dueKeyOf(x, "the x", stays == 1 ? new Object[] {3, "x", 0} : new Object[] {3, "the", 0, 3, "x", 0});
            due("language(" + stays + ")", x.language(stays), stays);
        }
    }

    private static void dueList(Order x, int... list) {
        for (int p = 0; p < list.length; p++) {
            due("place " + p + " from the first", x.browse(list[0], p), list[p]);
            due("the last from place " + p, x.browse(list[p], list.length - 1 - p), list[list.length - 1]);
        }
        due("before the first", x.browse(list[0], -1), 0);
        due("behind the last", x.browse(list[list.length - 1], 1), 0);
    }

    /** The records up to this one have keys in the order of their numbers. */
    private static void dueInOrder(Order x, int last) {
        for (int a = 1; a <= last; a++) {
            for (int b = 1; b <= last; b++) {
                due("compare(" + a + ", " + b + ")", x.compare(a, b), Integer.compare(a, b));
            }
        }
    }

    private static boolean isMark(int c) {
        return c >= 33 && c <= 126 && "0123456789abcdefghijklmnopqrstuvwxyz".indexOf(Character.toLowerCase((char) c)) < 0;
    }

    /** The key of a text of letters, spaces and ignored signs. */
    private static Object[] wordsOf(String text) {
        String[] words = text.replaceAll("[^a-z ]", "").split(" +");
        Object[] parts = new Object[words.length * 3];
        for (int w = 0; w < words.length; w++) {
            parts[w * 3] = 3;
            parts[w * 3 + 1] = words[w];
            parts[w * 3 + 2] = 0;
        }
        return parts;
    }

    /** The third byte of the key of a, this sign and b: the sign's own, a 0 where it is a space, b's where it is left out. */
    private static int thirdByteWith(Order x, int c) {
        x.title('a');
        x.title(c);
        x.title('b');
        x.key();
        return x.at(2);
    }

    private static Order roman() {
        Order x = new Order();
        x.roman(true);
        return x;
    }

    /** Records 1, 2, 3 with the keys of c, a, b, filed. */
    private static Order abcFiled() {
        Order x = new Order();
        x.record("c", 0);
        x.record("a", 0);
        x.record("b", 0);
        x.file();
        return x;
    }

    /** Records 1, 3, 4 with the key of a, record 2 with that of b, filed. */
    private static Order aaFiled() {
        Order x = new Order();
        x.record("a", 2);
        x.record("b", 0);
        x.record("A", 1);
        x.record("-a", 0);
        x.file();
        return x;
    }

    private static Map<String, Integer> usualForms() {
        String[] thousands = {"", "m", "mm", "mmm"};
        String[] hundreds = {"", "c", "cc", "ccc", "cd", "d", "dc", "dcc", "dccc", "cm"};
        String[] tens = {"", "x", "xx", "xxx", "xl", "l", "lx", "lxx", "lxxx", "xc"};
        String[] ones = {"", "i", "ii", "iii", "iv", "v", "vi", "vii", "viii", "ix"};
        Map<String, Integer> forms = new HashMap<>();
        for (int n = 1; n <= 3999; n++) {
            forms.put(thousands[n / 1000] + hundreds[n / 100 % 10] + tens[n / 10 % 10] + ones[n % 10], n);
        }
        return forms;
    }

    /** A FilingOrder whose calls are counted: beyond 512 the document promises nothing, so no test may look there. */
    private static final class Order {
        private final FilingOrder order = new FilingOrder();
        private int calls = 0;

        private FilingOrder next() {
            calls++;
            if (calls > 512) {
                throw new IllegalStateException("a test makes more than 512 calls");
            }
            return order;
        }

        void collect(String text) {
            for (int i = 0; i < text.length(); i++) {
                title(text.charAt(i));
            }
        }

        int keyOf(String text) {
            collect(text);
            return key();
        }

        int record(String text, int rank) {
            keyOf(text);
            return add(rank);
        }

        void title(int c) {
            next().title(c);
        }

        int language(int l) {
            return next().language(l);
        }

        boolean roman(boolean on) {
            return next().roman(on);
        }

        int mark(int c, int as) {
            return next().mark(c, as);
        }

        boolean skip(int count) {
            return next().skip(count);
        }

        int key() {
            return next().key();
        }

        int at(int i) {
            return next().at(i);
        }

        int number(int i, int kind) {
            return next().number(i, kind);
        }

        int add(int rank) {
            return next().add(rank);
        }

        int file() {
            return next().file();
        }

        int browse(int from, int i) {
            return next().browse(from, i);
        }

        int seek() {
            return next().seek();
        }

        int compare(int a, int b) {
            return next().compare(a, b);
        }

        int equal(int record, int i) {
            return next().equal(record, i);
        }
    }
}
