import java.util.function.Supplier;
import java.util.function.ToLongFunction;

/** What the tests share: sentences of the document by name, tables made in one row, and all that a table shows. */
final class Checks {
    static final int MIN = Integer.MIN_VALUE, MAX = Integer.MAX_VALUE;
    static final int NONE = -1, BAD = -2, STATE = -3, FULL = -4, NOTHING = -11, OUTSIDE = -12, OTHER = -13, BELOW = -14;
    static final long NO = -4611686018427387904L;
    static final String PLAIN = "counts 1;costs 1;joy 1;";

    private static String sentence = "";
    private static int sentences;
    private static int answers;
    private static int wrong;

    private Checks() {
    }

    /** What stands for one sentence of the document. Whatever is thrown in it is wrong: no call ever throws. */
    static void sentence(String words, Runnable test) {
        sentence = words;
        sentences++;
        try {
            test.run();
        } catch (RuntimeException | StackOverflowError thrown) {
            wrong++;
            System.out.println(sentence + ": " + thrown);
        }
    }

    static void due(String call, long got, long want) {
        answers++;
        if (got == want) return;
        wrong++;
        System.out.println(sentence + ": " + call + " answered " + got + ", due is " + want);
    }

    static void alike(String what, String got, String want) {
        answers++;
        if (got.equals(want)) return;
        wrong++;
        System.out.println(sentence + ": " + what + ": " + got + " is not " + want);
    }

    static void end() {
        System.out.println(sentences + " sentences, " + answers + " answers looked at, " + wrong + " not as due");
        if (wrong != 0) System.exit(1);
    }

    // ---- tables

    /** Pairs are told as words: "01 12". */
    static void set(ThreesAtTable x, String pairs, int v) {
        for (String pair : pairs.split(" ")) {
            if (!pair.isEmpty()) x.meet(pair.charAt(0) - '0', pair.charAt(1) - '0', v);
        }
    }

    static ThreesAtTable table(int n, String friends, String unseen) {
        ThreesAtTable x = new ThreesAtTable();
        x.sit(n);
        set(x, friends, 1);
        set(x, unseen, 2);
        return x;
    }

    static ThreesAtTable strangers(int n) {
        return table(n, "", "");
    }

    static ThreesAtTable friends(int n) {
        return table(n, pairsOf(n), "");
    }

    /** All pairs of n in the order of SEATS. */
    static String pairsOf(int n) {
        StringBuilder pairs = new StringBuilder();
        for (int j = 1; j < n; j++) for (int i = 0; i < j; i++) pairs.append(i).append(j).append(' ');
        return pairs.toString().trim();
    }

    static void feed(ThreesAtTable x, String words) {
        for (int at = 0; at < words.length(); at++) x.feed(words.charAt(at));
    }

    static int read(ThreesAtTable x, String words) {
        feed(x, words);
        return x.text();
    }

    /** The table, with that TEXT as THE RULE. */
    static ThreesAtTable ruled(ThreesAtTable x, String words) {
        int text = read(x, words);
        due("text " + words, text, x.count(4) - 1);
        x.force(text);
        return x;
    }

    static void fill(ThreesAtTable x, int sheet, int sort, int... items) {
        due("sheet", x.sheet(sheet, sort, items.length), 1);
        for (int at = 0; at < items.length; at++) due("cell", x.cell(sheet, at, items[at]), 1);
    }

    // ---- refused calls

    /** A table of which everything is otherwise than at first, and otherwise than in its image. */
    static ThreesAtTable rich() {
        ThreesAtTable x = table(5, "01 12 02", "34");
        x.town(2, 3);
        x.town(4, 1);
        ruled(x, "counts know;costs one+2;joy many;");
        fill(x, 0, 0, 13, 23, 99, 5);
        fill(x, 1, 1, 0, 3, 1);
        fill(x, 2, 2, 4, 14, 24, 1);
        x.image();
        x.sit(6);
        set(x, "01 12 02 35", 1);
        set(x, "24 45", 2);
        x.town(1, 0);
        x.force(0);
        feed(x, "cou");
        return x;
    }

    /** What can be seen of a table by calls that change nothing: some 60, as an object is used for 512 at most. */
    static String all(ThreesAtTable x) {
        StringBuilder all = new StringBuilder();
        for (int what = 0; what < 7; what++) all.append(x.count(what)).append(' ');
        for (int j = 1; j < x.count(0); j++) for (int i = 0; i < j; i++) all.append(x.told(i, j));
        for (int town = 0; town < 5; town++) {
            all.append(" town ").append(x.taken(town, 0)).append(' ').append(x.tells(town, 0, 1, 1));
        }
        for (int sheet = 0; sheet < 4; sheet++) {
            all.append(" sheet ").append(x.judge(sheet, 0)).append(' ').append(x.judge(sheet, 1));
            for (int sort = 0; sort < 3; sort++) all.append(' ').append(x.pairs(sheet, sort, 0, 0));
        }
        all.append(" threes ").append(x.threes(0)).append(' ').append(x.threes(1)).append(' ').append(x.home(2));
        return all.append(' ').append(x.noneLeft(2)).toString();
    }

    /** The calls answer that, and behind them everything is as it was, the image too. */
    @SafeVarargs
    static void refused(String call, long want, ToLongFunction<ThreesAtTable>... calls) {
        refused(Checks::rich, call, want, calls);
    }

    @SafeVarargs
    static void refused(Supplier<ThreesAtTable> made, String call, long want, ToLongFunction<ThreesAtTable>... calls) {
        ThreesAtTable x = made.get();
        String before = all(x);
        for (int at = 0; at < calls.length; at++) due(call + " (" + at + ")", calls[at].applyAsLong(x), want);
        alike("everything behind " + call, all(x), before);
        ThreesAtTable untouched = made.get();
        due("back", x.back(), untouched.back());
        alike("the image behind " + call, all(x), all(untouched));
    }
}
