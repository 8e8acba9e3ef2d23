import java.util.function.ToLongFunction;

/**
 * The class beside the slow one, not by chance: all tables of 1 to 4 GUESTS (each pair 0, 1, 2), all of
 * 5 that are LOOKED at, and all TOWNS of all numbers of GUESTS, under the first RULE and under another one.
 */
public final class AllTablesTest {
    private static final String OTHER_RULE = "counts know+one-third or many<4;costs 3*one+know+2*seen-other;joy 3*one-know;";

    public static void main(String[] args) {
        for (String rule : new String[] {"", OTHER_RULE}) {
            Checks.sentence("all tables of 1 to 4, rule '" + rule + "'", () -> {
                for (int n = 1; n <= 4; n++) allOf(n, 3, rule);
            });
            Checks.sentence("all tables of 5 that are looked at, rule '" + rule + "'", () -> allOf(5, 2, rule));
        }
        Checks.sentence("all towns", AllTablesTest::towns);
        Checks.end();
    }

    private static void allOf(int n, int sorts, String rule) {
        String[] pairs = n == 1 ? new String[0] : Checks.pairsOf(n).split(" ");
        int ways = 1;
        for (int at = 0; at < pairs.length; at++) ways *= sorts;
        for (int way = 0; way < ways; way++) {
            ThreesAtTable x = new ThreesAtTable();
            Slow slow = new Slow();
            x.sit(n);
            slow.sit(n);
            if (!rule.isEmpty()) {
                for (int at = 0; at < rule.length(); at++) slow.feed(rule.charAt(at));
                Checks.due("text", Checks.read(x, rule), slow.text());
                Checks.due("force", x.force(1), slow.force(1));
            }
            int left = way;
            StringBuilder table = new StringBuilder();
            for (String pair : pairs) {
                x.meet(pair.charAt(0) - '0', pair.charAt(1) - '0', left % sorts);
                slow.meet(pair.charAt(0) - '0', pair.charAt(1) - '0', left % sorts);
                table.append(left % sorts);
                left /= sorts;
            }
            ask("table " + table, x, slow);
        }
    }

    private static void ask(String of, ThreesAtTable x, Slow y) {
        for (int what = -1; what <= 5; what++) {
            int w = what;
            alike(of, "threes", w, x, y, a -> a.threes(w), b -> b.threes(w));
            alike(of, "home", w, x, y, a -> a.home(w), b -> b.home(w));
            alike(of, "change", w, x, y, a -> a.change(w), b -> b.change(w));
            alike(of, "noneLeft", w, x, y, a -> a.noneLeft(w), b -> b.noneLeft(w));
            alike(of, "friends", w, x, y, a -> a.all(1, w), b -> b.all(1, w));
            alike(of, "strangers", w, x, y, a -> a.all(0, w), b -> b.all(0, w));
            alike(of, "halved", w, x, y, a -> a.halved(w), b -> b.halved(w));
            alike(of, "common", w, x, y, a -> a.common(w), b -> b.common(w));
            alike(of, "half", w, x, y, a -> a.half(w), b -> b.half(w));
            alike(of, "chance", w, x, y, a -> a.chance(w), b -> b.chance(w));
            alike(of, "game", w, x, y, a -> a.game(w), b -> b.game(w));
            alike(of, "count", w, x, y, a -> a.count(w), b -> b.count(w));
            alike(of, "knows of guest", w, x, y, a -> a.guest(w, 0), b -> b.guest(w, 0));
            alike(of, "threes of guest", w, x, y, a -> a.guest(w, 1), b -> b.guest(w, 1));
            alike(of, "joy of guest", w, x, y, a -> a.guest(w, 2), b -> b.guest(w, 2));
        }
        alike(of, "most", 0, x, y, a -> a.most(), b -> b.most());
        alike(of, "fours", 0, x, y, a -> a.fours(), b -> b.fours());
    }

    private static void alike(String of, String call, int what, ThreesAtTable x, Slow y, ToLongFunction<ThreesAtTable> a, ToLongFunction<Slow> b) {
        Checks.due(of + ": " + call + " " + what, a.applyAsLong(x), b.applyAsLong(y));
    }

    private static void towns() {
        for (int n = 1; n <= 7; n++) {
            for (int kind = 0; kind <= 5; kind++) {
                for (int number = 0; number <= 9; number++) town(n, kind, number);
            }
        }
    }

    private static void town(int n, int kind, int number) {
        ThreesAtTable x = Checks.strangers(n);
        Slow y = new Slow();
        y.sit(n);
        String of = "town " + kind + " " + number + " of " + n;
        Checks.due(of, x.town(kind, number), y.town(kind, number));
        for (int i = -1; i <= 7; i++) {
            for (int j = -1; j <= 7; j++) {
                Checks.due(of + " knows " + i + j, x.tells(0, i, j, 0), y.tells(0, i, j, 0));
                Checks.due(of + " price " + i + j, x.tells(0, i, j, 1), y.tells(0, i, j, 1));
            }
        }
        Checks.due(of + ", strangers like it", x.like(0), y.like(0));
        Checks.due(of + ", as in it", x.asIn(0), y.asIn(0));
        Checks.due(of + ", threes", x.threes(2), y.threes(2));
        Checks.due(of + ", by degrees", x.threes(4), y.threes(4));
        Checks.due(of + ", fours", x.fours(), y.fours());
        Checks.due(of + ", like itself", x.like(0), y.like(0));
        Checks.due(of + ", home", x.home(1), y.home(1));
        Checks.due(of + ", change", x.change(0), y.change(0));
        Checks.due(of + ", halved", x.halved(1), y.halved(1));
        Checks.due(of + ", friends", x.all(1, 1), y.all(1, 1));
        Checks.due(of + ", strangers", x.all(0, 1), y.all(0, 1));
    }
}
