import java.util.ArrayList;
import java.util.List;

/**
 * The class beside a slow one that is written anew from the document, with other means throughout
 * (tables as rows, ways by trying all of them, texts by splitting), over runs of calls by chance
 * that is the same each time. Each tenth run asks with any numbers at all.
 */
public final class OracleTest {
    // What an object answers behind its 512th call is free, so no run asks more of one.
    private static final int RUNS = 1200, CALLS = 512, MOST_PAIRS = 21;
    private static int chance = 20261118;
    private static int wrong;
    private static int made;
    private static long calls;

    public static void main(String[] args) {
        for (int run = 0; run < RUNS && wrong == 0; run++) run(run);
        System.out.println(calls + " calls beside the slow table, " + wrong + " not alike");
        if (wrong != 0) System.exit(1);
    }

    private static int below(int n) {
        chance = chance * 1664525 + 1013904223;
        return (int) (((chance >>> 8) & 0xffffffL) * n >> 24);
    }

    private static int number(int low, int high, int run) {
        int[] far = {Integer.MIN_VALUE, Integer.MAX_VALUE, -1, 1 << 30, Integer.MAX_VALUE - 1, 40, 41, 160, 255, 256, -14, 7};
        if (below(run % 10 == 9 ? 3 : 90) == 0) return far[below(far.length)];
        return low + below(high - low + 1);
    }

    private static void run(int run) {
        ThreesAtTable x = new ThreesAtTable();
        Slow slow = new Slow();
        List<String> told = new ArrayList<>();
        made = 0;
        if (run % 3 != 0) begin(x, slow, told);
        while (made < CALLS && wrong == 0) {
            if (below(40) == 0) {
                tell(x, slow, told, below(3) == 0 ? broken(wholeText()) : wholeText());
            } else if (below(40) == 0) {
                draw(x, slow, told);
            } else {
                call(x, slow, told, run);
            }
        }
        if (made > CALLS) throw new IllegalStateException("a run of " + made + " calls");
    }

    /** Towns, a text that is forced, rows of what may be pairs: so that the calls find something. */
    private static void begin(ThreesAtTable x, Slow slow, List<String> told) {
        for (int town = below(6); town > 0; town--) fixed(x, slow, told, 3, below(6), below(10));
        if (below(2) == 0) tell(x, slow, told, wholeText());
        fixed(x, slow, told, 8, 1);
        for (int sheet = 0; sheet < 3; sheet++) {
            int size = below(13);
            fixed(x, slow, told, 30, sheet, below(3), size);
            for (int at = 0; at < size; at++) {
                int v = sheet == 0 ? 10 * below(5) + below(5) : at % 3 == 2 ? below(3) : below(6);
                fixed(x, slow, told, 31, sheet, at, v);
            }
        }
    }

    private static void tell(ThreesAtTable x, Slow slow, List<String> told, String words) {
        if (made + words.length() + 2 > CALLS) return;
        if (below(4) != 0) fixed(x, slow, told, 7);
        for (int at = 0; at < words.length(); at++) alike(told, "feed", x.feed(words.charAt(at)), slow.feed(words.charAt(at)));
        told.add("tape: " + words);
        fixed(x, slow, told, 7);
    }

    /** A table of any pairs; few, some or many of them not looked at. */
    private static void draw(ThreesAtTable x, Slow slow, List<String> told) {
        if (made + 1 + MOST_PAIRS > CALLS) return;
        int n = 1 + below(7), known = 1 + below(9), unseen = below(3) * below(5);
        fixed(x, slow, told, 0, n);
        for (int j = 0; j < n; j++) {
            for (int i = 0; i < j; i++) fixed(x, slow, told, 1, i, j, below(10) < unseen ? 2 : below(10) < known ? 1 : 0);
        }
    }

    private static void fixed(ThreesAtTable x, Slow slow, List<String> told, int which, int... a) {
        alike(told, "call " + which + " " + java.util.Arrays.toString(a), ofClass(x, which, a), ofSlow(slow, which, a));
    }

    private static void alike(List<String> told, String call, long got, long want) {
        calls++;
        made++;
        if (call.length() > 4) told.add(call + " = " + want);
        if (got == want) return;
        wrong++;
        for (String row : told) System.out.println(row);
        System.out.println(call + " answered " + got + ", the slow one " + want);
    }

    private static void call(ThreesAtTable x, Slow slow, List<String> told, int run) {
        int[] a = new int[5];
        int which = below(48);
        int[][] bounds = boundsOf(which);
        StringBuilder name = new StringBuilder("call " + which + "(");
        for (int at = 0; at < bounds.length; at++) {
            a[at] = number(bounds[at][0], bounds[at][1], run);
            name.append(at == 0 ? "" : ", ").append(a[at]);
        }
        alike(told, name.append(")").toString(), ofClass(x, which, a), ofSlow(slow, which, a));
    }

    private static int[][] boundsOf(int which) {
        switch (which) {
            case 0: return new int[][] {{1, 7}};
            case 1: case 36: case 37: case 38: case 39: return new int[][] {{0, 6}, {0, 6}, {0, 2}};
            case 40: case 41: case 42: case 43: return new int[][] {{0, 3}, {0, 3}, {2, 2}};
            case 2: return new int[][] {{0, 6}, {0, 6}};
            case 3: return new int[][] {{0, 5}, {0, 9}};
            case 4: case 26: case 44: return new int[][] {{0, 5}};
            case 5: return new int[][] {{0, 5}, {0, 5}, {1, 6}, {0, 1}};
            case 6: return new int[][] {{0, 255}};
            case 12: case 7: case 18: case 27: case 28: return new int[][] {};
            case 8: return new int[][] {{0, 5}};
            case 9: return new int[][] {{0, 4}};
            case 10: return new int[][] {{0, 6}, {0, 2}};
            case 11: return new int[][] {{Integer.MIN_VALUE / 2, Integer.MAX_VALUE / 2}};
            case 13: case 15: return new int[][] {{0, 2}};
            case 14: case 17: case 19: case 21: case 22: case 23: return new int[][] {{0, 1}};
            case 16: return new int[][] {{0, 1}, {0, 1}};
            case 20: return new int[][] {{1, 5}, {0, 1}};
            case 24: return new int[][] {{0, 3}, {0, 1}};
            case 25: return new int[][] {{0, 5}, {0, 5}};
            case 29: return new int[][] {{0, 6}};
            case 30: return new int[][] {{3, 3}, {-1, 2}, {0, 40}};
            case 31: case 45: return new int[][] {{0, 3}, {0, 12}, {0, 66}};
            case 46: return new int[][] {{0, 3}, {0, 3}, {0, 6}};
            case 47: return new int[][] {{2, 3}, {1, 1}, {9, 20}};
            case 32: return new int[][] {{0, 3}, {0, 8}, {0, 3}, {0, 8}, {0, 9}};
            case 33: return new int[][] {{0, 3}, {0, 2}, {0, 6}, {0, 4}};
            case 34: return new int[][] {{0, 5}, {0, 5}};
            default: return new int[][] {{0, 6}};
        }
    }

    private static long ofClass(ThreesAtTable x, int which, int[] a) {
        switch (which) {
            case 0: return x.sit(a[0]);
            case 2: return x.told(a[0], a[1]);
            case 3: return x.town(a[0], a[1]);
            case 4: return x.asIn(a[0]);
            case 5: return x.tells(a[0], a[1], a[2], a[3]);
            case 6: return x.feed(a[0]);
            case 7: return x.text();
            case 8: return x.force(a[0]);
            case 9: return x.threes(a[0]);
            case 10: return x.guest(a[0], a[1]);
            case 11: return x.drawn(a[0]);
            case 12: return x.most();
            case 13: return x.home(a[0]);
            case 14: return x.change(a[0]);
            case 15: return x.noneLeft(a[0]);
            case 16: return x.all(a[0], a[1]);
            case 17: return x.halved(a[0]);
            case 18: return x.fours();
            case 19: return x.common(a[0]);
            case 20: return x.without(a[0], a[1]);
            case 21: return x.half(a[0]);
            case 22: return x.chance(a[0]);
            case 23: return x.game(a[0]);
            case 24: return x.judge(a[0], a[1]);
            case 25: case 34: return x.taken(a[0], a[1]);
            case 26: case 44: return x.like(a[0]);
            case 27: return x.image();
            case 28: return x.back();
            case 29: return x.count(a[0]);
            case 30: case 47: return x.sheet(a[0], a[1], a[2]);
            case 31: case 45: case 46: return x.cell(a[0], a[1], a[2]);
            case 32: return x.copy(a[0], a[1], a[2], a[3], a[4]);
            case 33: return x.pairs(a[0], a[1], a[2], a[3]);
            case 35: return x.count(a[0]);
            default: return x.meet(a[0], a[1], a[2]);
        }
    }

    private static long ofSlow(Slow x, int which, int[] a) {
        switch (which) {
            case 0: return x.sit(a[0]);
            case 2: return x.told(a[0], a[1]);
            case 3: return x.town(a[0], a[1]);
            case 4: return x.asIn(a[0]);
            case 5: return x.tells(a[0], a[1], a[2], a[3]);
            case 6: return x.feed(a[0]);
            case 7: return x.text();
            case 8: return x.force(a[0]);
            case 9: return x.threes(a[0]);
            case 10: return x.guest(a[0], a[1]);
            case 11: return x.drawn(a[0]);
            case 12: return x.most();
            case 13: return x.home(a[0]);
            case 14: return x.change(a[0]);
            case 15: return x.noneLeft(a[0]);
            case 16: return x.all(a[0], a[1]);
            case 17: return x.halved(a[0]);
            case 18: return x.fours();
            case 19: return x.common(a[0]);
            case 20: return x.without(a[0], a[1]);
            case 21: return x.half(a[0]);
            case 22: return x.chance(a[0]);
            case 23: return x.game(a[0]);
            case 24: return x.judge(a[0], a[1]);
            case 25: case 34: return x.taken(a[0], a[1]);
            case 26: case 44: return x.like(a[0]);
            case 27: return x.image();
            case 28: return x.back();
            case 29: return x.count(a[0]);
            case 30: case 47: return x.sheet(a[0], a[1], a[2]);
            case 31: case 45: case 46: return x.cell(a[0], a[1], a[2]);
            case 32: return x.copy(a[0], a[1], a[2], a[3], a[4]);
            case 33: return x.pairs(a[0], a[1], a[2], a[3]);
            case 35: return x.count(a[0]);
            default: return x.meet(a[0], a[1], a[2]);
        }
    }

    // ---- texts by chance

    private static String wholeText() {
        return "counts " + either(below(3)) + " ;costs " + either(below(2)) + "; joy" + " " + either(below(2)) + ";";
    }

    private static String either(int depth) {
        String left = below(4) == 0 && depth > 0 ? either(depth - 1) + (below(2) == 0 ? " or " : " and ") : "";
        return left + (below(5) == 0 ? "not " : "") + compared(depth);
    }

    private static String compared(int depth) {
        String sum = sum(depth);
        return below(3) == 0 ? sum + (below(2) == 0 ? "<" : " = ") + sum(depth) : sum;
    }

    private static String sum(int depth) {
        StringBuilder sum = new StringBuilder(one(depth));
        for (int more = below(5) / 2; more > 0; more--) sum.append("+-*".charAt(below(3))).append(one(depth));
        return sum.toString();
    }

    private static String one(int depth) {
        String[] names = {"one", "other", "third", "know", "seen", "many"};
        if (below(6) == 0) return "-" + one(depth);
        if (depth > 0 && below(3) == 0) return "(" + either(depth - 1) + ")";
        return below(2) == 0 ? names[below(6)] : String.valueOf(below(below(5) == 0 ? 10000 : 7));
    }

    private static String broken(String words) {
        StringBuilder text = new StringBuilder(words);
        String[] pieces = {"(", ")", "not ", "-", "5", " or ", "and", "<", "=", ";", "joy", "one", "?", "X", "\n", " ", "\t", "*",
            "((((", "not not not not ", "----", "12345", "\u00e9", "+"};
        for (int change = 1 + below(2); change > 0; change--) {
            int at = below(text.length());
            if (below(3) == 0) text.deleteCharAt(at);
            else text.insert(at, pieces[below(pieces.length)]);
        }
        return text.toString();
    }
}
