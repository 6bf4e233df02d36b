import java.util.ArrayList;
import java.util.Comparator;
import java.util.List;
import java.util.Random;
import java.util.regex.Pattern;

/** Long runs of calls, chosen by a fixed seed, against a second telling of the document in texts and patterns. */
public final class ModelTests {
    private static final int RUNS = 4000;
    private static final int CALLS = 512;
    private static final String[] PIECES = {
        "The ", "a ", "an ", "der ", "die ", "das ", "le ", "la ", "les ", "L'", " ", "-", ".", ", ", "\u0007", "\u00e9",
        "007", "0", "12", "999999999", "1000000000", "xiv ", "MIX ", "iiii", "m ", "m", "c", "v", "wall", "Wall-E", "e", "1a"
    };
    private static final int[] ODD = {-1, 0, 1, 2, 3, 4, 5, 59, 60, 61, 80, 81, 255, 256, Integer.MAX_VALUE, Integer.MIN_VALUE};

    public static void main(String[] args) {
        Random random = new Random(20261116);
        for (int run = 0; run < RUNS; run++) {
            List<String> told = new ArrayList<>();
            if (!runOnce(random, run % 3, told)) {
                System.out.println("run " + run + ", its last calls:");
                told.subList(Math.max(0, told.size() - 60), told.size()).forEach(System.out::println);
                System.exit(1);
            }
        }
        System.out.println(RUNS + " runs of " + CALLS + " calls are as due");
    }

    private static boolean runOnce(Random random, int manner, List<String> told) {
        FilingOrder x = new FilingOrder();
        Model model = new Model();
        String waiting = "";
        for (int call = 0; call < CALLS; call++) {
            String name;
            long got;
            long want;
            if (waiting.isEmpty() && random.nextInt(3) > 0 && manner != 2) {
                waiting = PIECES[random.nextInt(PIECES.length)];
            }
            if (!waiting.isEmpty()) {
                int c = waiting.charAt(0) + 256 * (random.nextInt(3) - 1);
                waiting = waiting.substring(1);
                name = "title(" + c + ")";
                x.title(c);
                model.title(c);
                got = 0;
                want = 0;
            } else {
                int a = argument(random);
                int b = argument(random);
                int which = random.nextInt(manner == 0 ? 22 : 16);
                name = "call " + which + " of " + a + ", " + b;
                got = answer(x, which, a, b);
                want = model.answer(which, a, b);
            }
            told.add(name + ": " + got + (got == want ? "" : ", due is " + want));
            if (got != want) {
                return false;
            }
        }
        return true;
    }

    private static int argument(Random random) {
        int kind = random.nextInt(10);
        return kind == 0 ? ODD[random.nextInt(ODD.length)] : kind < 5 ? random.nextInt(5) : random.nextInt(40) - 2;
    }

    private static long answer(FilingOrder x, int which, int a, int b) {
        switch (which) {
            case 0: return x.language(a);
            case 1: return x.roman((a & 1) == 1) ? 1 : 0;
            case 2: return x.mark(a + 32, b);
            case 3: return x.skip(a) ? 1 : 0;
            case 4: return x.key();
            case 5: return atOrThrown(x, a);
            case 6: return x.number(a, b);
            case 7: return x.add(a);
            case 8: return x.file();
            case 9: return x.browse(a, b);
            case 10: return x.seek();
            case 11: return x.compare(a, b);
            case 12: return x.equal(a, b);
            case 13: return x.number(a, b & 3);
            case 14: return x.browse(a, b % 4);
            case 15: return x.equal(a, b & 1);
            default: return (which & 1) == 0 ? x.key() : x.add(a & 3);
        }
    }

    private static long atOrThrown(FilingOrder x, int i) {
        try {
            return x.at(i);
        } catch (ArrayIndexOutOfBoundsException e) {
            return -1000;
        }
    }

    private static final class Item {
        final int number;
        final int rank;
        final String key;

        Item(int number, int rank, String key) {
            this.number = number;
            this.rank = rank;
            this.key = key;
        }
    }

    private static final class Model {
        private static final Pattern ROMAN =
            Pattern.compile("(?=.)m{0,3}(cm|cd|d?c{0,3})(xc|xl|l?x{0,3})(ix|iv|v?i{0,3})");
        private static final String[] ARTICLES = {" ", " a an the ", " der die das ", " le la les "};

        private String collected = "";
        private int left = 0;
        private int language = 0;
        private boolean roman = false;
        private String spaces = " ";
        private String key = "";
        private List<int[]> numbers = new ArrayList<>();
        private final List<Item> items = new ArrayList<>();
        private List<Item> list = new ArrayList<>();

        void title(int c) {
            if (collected.length() < 80) {
                collected += (char) (c & 255);
            }
        }

        long answer(int which, int a, int b) {
            switch (which) {
                case 0: return language(a);
                case 1: return roman((a & 1) == 1);
                case 2: return mark(a + 32, b);
                case 3: return skip(a);
                case 4: return key();
                case 5: return a >= 0 && a < key.length() ? key.charAt(a) : -1000;
                case 6: return number(a, b);
                case 7: return add(a);
                case 8: return file();
                case 9: return browse(a, b);
                case 10: return seek();
                case 11: return compare(a, b);
                case 12: return equal(a, b);
                case 13: return number(a, b & 3);
                case 14: return browse(a, b % 4);
                case 15: return equal(a, b & 1);
                default: return (which & 1) == 0 ? key() : add(a & 3);
            }
        }

        private long language(int l) {
            if (l < 0 || l > 3) {
                return -1;
            }
            int before = language;
            language = l;
            return before;
        }

        private long roman(boolean on) {
            long before = roman ? 1 : 0;
            roman = on;
            return before;
        }

        private long mark(int c, int as) {
            boolean isMark = c > 32 && c < 127 && !String.valueOf((char) c).matches("[A-Za-z0-9]");
            if (!isMark || as < 0 || as > 1) {
                return -1;
            }
            String sign = String.valueOf((char) c);
            long before = spaces.contains(sign) ? 1 : 0;
            spaces = spaces.replace(sign, "") + (as == 1 ? sign : "");
            return before;
        }

        private long skip(int count) {
            if (count < 0 || count > collected.length()) {
                return 0;
            }
            left = count;
            return 1;
        }

        private long key() {
            StringBuilder plain = new StringBuilder();
            for (char c : collected.substring(left).toCharArray()) {
                plain.append(spaces.indexOf(c) >= 0 ? " " : String.valueOf(c).replaceAll("[^A-Za-z0-9]", ""));
            }
            List<String> words = new ArrayList<>();
            for (String word : plain.toString().toLowerCase(java.util.Locale.ROOT).split(" +")) {
                if (!word.isEmpty()) {
                    words.add(word);
                }
            }
            if (left == 0 && words.size() > 1 && ARTICLES[language].contains(" " + words.get(0) + " ")) {
                words.remove(0);
            }
            key = "";
            numbers = new ArrayList<>();
            words.forEach(this::put);
            collected = "";
            left = 0;
            return key.length();
        }

        private void put(String word) {
            boolean isRoman = roman && ROMAN.matcher(word).matches();
            if (!isRoman && !word.matches("[0-9]+")) {
                key += (char) 3 + word + (char) 0;
                return;
            }
            String digits = isRoman ? Integer.toString(valueOf(word)) : new java.math.BigInteger(word).toString();
            key += (char) 2 + "" + (char) digits.length() + digits;
            int tail = Integer.parseInt(digits.substring(Math.max(0, digits.length() - 9)));
            numbers.add(new int[] {digits.length(), isRoman ? 1 : 0, tail});
        }

        private static int valueOf(String word) {
            int value = 0;
            int[] worths = {1, 5, 10, 50, 100, 500, 1000};
            int before = 0;
            for (int i = word.length() - 1; i >= 0; i--) {
                int worth = worths["ivxlcdm".indexOf(word.charAt(i))];
                value += worth < before ? -worth : worth;
                before = worth;
            }
            return value;
        }

        private long number(int i, int kind) {
            return i < 0 || i >= numbers.size() || kind < 0 || kind > 2 ? -1 : numbers.get(i)[kind];
        }

        private long add(int rank) {
            if (rank < 0 || rank > 3 || items.size() == 60) {
                return 0;
            }
            items.add(new Item(items.size() + 1, rank, key));
            return items.size();
        }

        private long file() {
            list = new ArrayList<>(items);
            list.sort(Comparator.comparing((Item item) -> item.key)
                .thenComparingInt(item -> item.rank).thenComparingInt(item -> item.number));
            return list.size();
        }

        private long browse(int from, int i) {
            for (int p = 0; p < list.size(); p++) {
                long wanted = (long) p + i;
                if (list.get(p).number == from && wanted >= 0 && wanted < list.size()) {
                    return list.get((int) wanted).number;
                }
            }
            return 0;
        }

        private long seek() {
            return list.stream().filter(item -> item.key.compareTo(key) >= 0).mapToInt(item -> item.number)
                .findFirst().orElse(0);
        }

        private long compare(int a, int b) {
            if (a < 1 || b < 1 || a > items.size() || b > items.size()) {
                return -2;
            }
            return Integer.signum(items.get(a - 1).key.compareTo(items.get(b - 1).key));
        }

        private long equal(int record, int i) {
            if (record < 1 || record > items.size() || i < 0) {
                return 0;
            }
            return items.stream().filter(item -> item.number != record && item.key.equals(items.get(record - 1).key))
                .skip(i).mapToInt(item -> item.number).findFirst().orElse(0);
        }
    }
}
