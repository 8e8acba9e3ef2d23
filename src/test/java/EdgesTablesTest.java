/** Promises 21 to 30: each sentence that names an edge, and each refused call. */
public final class EdgesTablesTest {
    private static final int MIN = Checks.MIN, MAX = Checks.MAX;
    private static final long NO = Checks.NO;
    private static final String NEVER = "counts 0;costs 1;joy 1;";
    private static final String TEN = "01 02 12 03 13 23 04 14 24 34";
    private static final String ELEVEN = TEN + " 05";

    public static void main(String[] args) {
        without();
        half();
        halfRefused();
        chance();
        game();
        gameTurns();
        judge();
        judgeThree();
        drawn();
        like();
        image();
        back();
        count();
        Checks.end();
    }

    private static void due(String call, long got, long want) {
        Checks.due(call, got, want);
    }

    private static ThreesAtTable nobodyLooked(int n) {
        return Checks.table(n, "", Checks.pairsOf(n));
    }

    // ---- 21: without

    private static void without() {
        int[] ways = {1, 2, 6, 18, 12};
        int[] least = {0, 0, 1, 12, 236};
        Checks.sentence("WITHOUT: tables of 1 to 5", () -> {
            for (int n = 1; n <= 5; n++) {
                due("how many of " + n, new ThreesAtTable().without(n, 0), ways[n - 1]);
                due("the least of " + n, new ThreesAtTable().without(n, 1), least[n - 1]);
            }
        });
        Checks.sentence("WITHOUT: all tables of n: not by the GUESTS that there are, nor by what they are", () -> {
            for (int guests = 1; guests <= 7; guests++) {
                for (int n = 1; n <= 5; n++) {
                    due("friends", Checks.friends(guests).without(n, 0), ways[n - 1]);
                    due("nobody has looked", nobodyLooked(guests).without(n, 1), least[n - 1]);
                }
            }
        });
        Checks.sentence("WITHOUT: counts isn't asked", () -> {
            ThreesAtTable x = Checks.ruled(Checks.strangers(7), NEVER);
            due("how many", x.without(5, 0), 12);
            due("the least", x.without(5, 1), 236);
        });
        Checks.sentence("21: asking changes nothing, and may be done again", () -> {
            ThreesAtTable x = Checks.rich();
            String before = Checks.all(x);
            for (int n : new int[] {5, 1, 5, 2}) {
                due("how many", x.without(n, 0), ways[n - 1]);
                due("the least", x.without(n, 1), least[n - 1]);
            }
            Checks.alike("all", Checks.all(x), before);
        });
        Checks.sentence("21: BAD: n below 1, above 5; what; nothing changes", () -> {
            Checks.refused("n", Checks.BAD, x -> x.without(0, 0), x -> x.without(6, 0), x -> x.without(-1, 1), x -> x.without(7, 1),
                x -> x.without(MIN, 0), x -> x.without(MAX, 1));
            Checks.refused("what", Checks.BAD, x -> x.without(1, 2), x -> x.without(5, -1), x -> x.without(3, MIN), x -> x.without(3, MAX));
        });
    }

    // ---- 22, 23: half, chance

    private static void half(String of, ThreesAtTable x, int ways, int most, int above, int below) {
        due(of + ", ways", x.half(0), ways);
        due(of + ", most", x.half(1), most);
        due(of + ", above", x.chance(0), above);
        due(of + ", below", x.chance(1), below);
    }

    private static void half() {
        Checks.sentence("HALF KNOWN: all LOOKED at: one way", () -> {
            int[] threes = {0, 0, 1, 4, 10, 20, 35};
            for (int n = 1; n <= 7; n++) {
                half("strangers of " + n, Checks.strangers(n), n < 3 ? 1 : 0, threes[n - 1], n < 3 ? 0 : 1, 1);
                half("friends of " + n, Checks.friends(n), n < 3 ? 1 : 0, threes[n - 1], n < 3 ? 0 : 1, 1);
            }
            half("five in a ring", Checks.table(5, "01 12 23 34 04", ""), 1, 0, 0, 1);
        });
        Checks.sentence("HALF KNOWN: one pair not LOOKED at", () -> {
            half("two", nobodyLooked(2), 2, 0, 0, 1);
            half("it would be friends", Checks.table(3, "01 02", "12"), 1, 1, 1, 2);
            half("it would be strangers", Checks.table(3, "", "12"), 1, 1, 1, 2);
            half("it would be neither", Checks.table(3, "01", "12"), 2, 0, 0, 1);
            half("the last of seven", Checks.table(7, "", "56"), 0, 35, 1, 1);
        });
        Checks.sentence("HALF KNOWN: none is LOOKED at: of three, four, five", () -> {
            half("three", nobodyLooked(3), 6, 1, 1, 4);
            half("four", nobodyLooked(4), 18, 4, 23, 32);
            half("five: all ten", nobodyLooked(5), 12, 10, 253, 256);
        });
        Checks.sentence("HALF KNOWN: 10 at most", () -> {
            half("six", Checks.table(6, "", TEN), 0, 20, 1, 1);
            half("the last ten of seven", Checks.table(7, "", "35 45 06 16 26 36 46 56 25 15"), 0, 35, 1, 1);
        });
        Checks.sentence("HALF KNOWN: all 1024 ways without", () ->
            half("none counts", Checks.ruled(Checks.table(7, "", TEN), NEVER), 1024, 0, 0, 1));
        Checks.sentence("HALF KNOWN: one way of 1024 without", () -> {
            // 0 knows all others; of the others ten pairs: each one that is 1 makes friends of three.
            String words = "counts know;costs 1;joy 1;";
            half("one", Checks.ruled(Checks.table(7, "01 02 03 04 05 06", "12 13 23 14 24 34 15 25 35 45"), words), 1, 20, 1023, 1024);
        });
        Checks.sentence("HALF KNOWN: one way of two, of many: in lowest terms", () -> {
            String one = "counts one=4 and know;costs 1;joy 1;";
            half("one pair matters of ten", Checks.ruled(Checks.table(7, "45 46", "56 01 02 12 03 13 23 04 14 24"), one), 512, 1, 1, 2);
            half("two pairs matter", Checks.ruled(Checks.table(7, "45", "46 56 01 02 12 03 13 23 04 14"), one), 768, 1, 1, 4);
            half("three pairs matter", Checks.ruled(Checks.table(7, "", "45 46 56 01 02 12 03 13 23 04"), one), 896, 1, 1, 8);
            half("of strangers", Checks.ruled(Checks.table(7, "", "45 46 56 01 02 12 03 13 23 04"), "counts one=4;costs 1;joy 1;"), 768, 1, 1, 4);
        });
        Checks.sentence("HALF KNOWN: a THREE that is there is there in all ways", () ->
            half("012", Checks.table(5, "01 02 12", "03 13 23 04 14 24 34"), 0, 10, 1, 1));
        Checks.sentence("HALF KNOWN: counts tells it, of each way's THREES", () -> {
            half("friends alone", Checks.ruled(nobodyLooked(3), "counts know=3;costs 1;joy 1;"), 7, 1, 1, 8);
            half("strangers alone", Checks.ruled(nobodyLooked(3), "counts know=0;costs 1;joy 1;"), 7, 1, 1, 8);
            half("seen is 3 then", Checks.ruled(nobodyLooked(3), "counts seen=3;costs 1;joy 1;"), 6, 1, 1, 4);
        });
        Checks.sentence("HALF KNOWN: as it is now, not as it was when it was asked before", () -> {
            ThreesAtTable x = Checks.strangers(7);
            half("of seven", x, 0, 35, 1, 1);
            x.sit(3);
            x.meet(0, 1, 2);
            half("of three", x, 1, 1, 1, 2);
            x.meet(0, 1, 1);
            half("none then", x, 1, 0, 0, 1);
            x.sit(4);
            due("above, asked first", x.chance(0), 1);
            x.sit(2);
            due("above, asked first", x.chance(0), 0);
            x.meet(0, 1, 2);
            due("below, asked first", x.chance(1), 1);
            x.sit(3);
            x.meet(0, 2, 2);
            due("below, asked first", x.chance(1), 2);
        });
        Checks.sentence("HALF KNOWN: asking changes nothing", () -> {
            ThreesAtTable x = nobodyLooked(5);
            for (int what = 0; what < 2; what++) {
                x.half(what);
                x.chance(what);
            }
            due("not looked at", x.count(2), 10);
            due("ways", x.half(0), 12);
        });
    }

    private static ThreesAtTable eleven() {
        ThreesAtTable x = Checks.rich();
        Checks.set(x, Checks.pairsOf(6), 1);
        Checks.set(x, ELEVEN, 2);
        due("eleven", x.count(2), 11);
        return x;
    }

    private static void halfRefused() {
        Checks.sentence("22: STATE: more than 10 pairs aren't LOOKED at", () -> {
            for (int n = 6; n <= 7; n++) {
                ThreesAtTable x = Checks.strangers(n);
                int unseen = 0;
                for (String pair : Checks.pairsOf(n).split(" ")) {
                    Checks.set(x, pair, 2);
                    unseen++;
                    due(unseen + " of " + n + ", ways", x.half(0) == Checks.STATE ? 1 : 0, unseen > 10 ? 1 : 0);
                    due(unseen + " of " + n + ", most", x.half(1) == Checks.STATE ? 1 : 0, unseen > 10 ? 1 : 0);
                    due(unseen + " of " + n + ", above", x.chance(0) == NO ? 1 : 0, unseen > 10 ? 1 : 0);
                    due(unseen + " of " + n + ", below", x.chance(1) == NO ? 1 : 0, unseen > 10 ? 1 : 0);
                }
            }
        });
        Checks.sentence("22: STATE; nothing changes", () ->
            Checks.refused(EdgesTablesTest::eleven, "eleven", Checks.STATE, x -> x.half(0), x -> x.half(1)));
        Checks.sentence("22: BAD; nothing changes", () ->
            Checks.refused("half", Checks.BAD, x -> x.half(-1), x -> x.half(2), x -> x.half(MIN), x -> x.half(MAX)));
        Checks.sentence("22: BAD ahead of STATE", () -> {
            due("eleven", eleven().half(2), Checks.BAD);
            due("eleven, below", eleven().half(-1), Checks.BAD);
        });
        Checks.sentence("22: one pair of eleven is looked at again", () -> {
            ThreesAtTable x = Checks.table(6, "", ELEVEN);
            due("eleven", x.half(0), Checks.STATE);
            x.meet(0, 5, 0);
            due("ten", x.half(0), 0);
        });
    }

    private static void chance() {
        Checks.sentence("23: NO: part; nothing changes", () ->
            Checks.refused("chance", NO, x -> x.chance(-1), x -> x.chance(2), x -> x.chance(MIN), x -> x.chance(MAX)));
        Checks.sentence("23: NO: more than 10 pairs aren't LOOKED at; nothing changes", () ->
            Checks.refused(EdgesTablesTest::eleven, "eleven", NO, x -> x.chance(0), x -> x.chance(1), x -> x.chance(2)));
        Checks.sentence("23: in lowest terms: none is 0 by 1, all are 1 by 1", () -> {
            half("none", Checks.ruled(Checks.table(7, "", TEN), NEVER), 1024, 0, 0, 1);
            half("none of two", nobodyLooked(2), 2, 0, 0, 1);
            half("all", Checks.table(6, "", TEN), 0, 20, 1, 1);
            half("half", Checks.table(3, "01 02", "12"), 1, 1, 1, 2);
        });
        Checks.sentence("23: in lowest terms: more than a half", () -> {
            // 12 or 13 or 23 makes friends with 0; 3 of 4, 7 of 8.
            String words = "counts know;costs 1;joy 1;";
            half("three of four", Checks.ruled(Checks.table(4, "01 02 03", "12 13"), words), 1, 2, 3, 4);
            half("seven of eight", Checks.ruled(Checks.table(4, "01 02 03", "12 13 23"), words), 1, 4, 7, 8);
        });
    }

    // ---- 24: game

    private static void game(String of, ThreesAtTable x, int value, int pair) {
        due(of + ", value", x.game(0), value);
        due(of + ", pair", x.game(1), pair);
    }

    private static void game() {
        Checks.sentence("THE GAME: all LOOKED at: 0; NONE", () -> {
            for (int n = 1; n <= 4; n++) {
                game("strangers of " + n, Checks.strangers(n), 0, Checks.NONE);
                game("friends of " + n, Checks.friends(n), 0, Checks.NONE);
            }
        });
        Checks.sentence("THE GAME: nobody has looked", () -> {
            game("two", nobodyLooked(2), 0, 0);
            game("three", nobodyLooked(3), 0, 0);
            game("four", nobodyLooked(4), 0, 0);
        });
        Checks.sentence("THE GAME: for 4 GUESTS at most: STATE; nothing changes", () -> {
            Checks.refused("six", Checks.STATE, x -> x.game(0), x -> x.game(1));
            for (int n = 5; n <= 7; n++) {
                due("strangers of " + n, Checks.strangers(n).game(0), Checks.STATE);
                due("nobody has looked, " + n, nobodyLooked(n).game(1), Checks.STATE);
            }
        });
        Checks.sentence("24: BAD; nothing changes", () ->
            Checks.refused(EdgesTablesTest::four, "game", Checks.BAD, x -> x.game(-1), x -> x.game(2), x -> x.game(MIN), x -> x.game(MAX)));
        Checks.sentence("24: BAD ahead of STATE", () ->
            Checks.refused("six", Checks.BAD, x -> x.game(-1), x -> x.game(2), x -> x.game(MIN), x -> x.game(MAX)));
        Checks.sentence("24: asking changes nothing", () -> {
            ThreesAtTable x = nobodyLooked(4);
            x.game(0);
            x.game(1);
            due("not looked at", x.count(2), 6);
        });
    }

    private static ThreesAtTable four() {
        ThreesAtTable x = Checks.rich();
        x.sit(4);
        Checks.set(x, "01 12", 1);
        Checks.set(x, "03 23", 2);
        return x;
    }

    private static void gameTurns() {
        Checks.sentence("THE GAME: who makes three so, with that pair, loses", () -> {
            game("the one pair makes friends", Checks.table(3, "01 02", "12"), -1, 2);
            game("the one pair makes none", Checks.table(3, "01", "12"), 0, 2);
            game("strangers alone are not the first one's", Checks.table(3, "", "12"), 0, 2);
            game("each of two makes friends", Checks.table(4, "01 02 03", "12 13"), -1, 2);
            game("the least of two that make friends", Checks.table(4, "02 03 12", "01 23"), -1, 0);
            game("not by the one that makes friends", Checks.table(4, "02 12", "01 23"), 1, 5);
        });
        Checks.sentence("THE GAME: three that were so before do not matter, but with that pair", () -> {
            game("friends of 012, 03 is left", Checks.table(4, "01 02 12", "03"), 0, 3);
            game("strangers of 012, 03 is left", Checks.table(4, "", "03"), 0, 3);
            game("friends of 012, and 03 makes those of 013", Checks.table(4, "01 02 12 13", "03"), -1, 3);
        });
        Checks.sentence("THE GAME: the first one can win: the second one's last pair makes strangers", () -> {
            game("03, then 13 makes strangers of 123", Checks.table(4, "01", "03 13"), 1, 3);
            game("by 13, not by 03", Checks.table(4, "01 12", "03 13"), 1, 4);
        });
        Checks.sentence("THE GAME: VALUE 0: it goes on till all are LOOKED at", () -> {
            game("one pair and no other", Checks.table(4, "01 23", "02"), 0, 1);
            game("two pairs", Checks.table(4, "01 23", "03 12"), 0, 2);
        });
        Checks.sentence("THE GAME: counts isn't asked", () -> {
            game("friends", Checks.ruled(Checks.table(3, "01 02", "12"), NEVER), -1, 2);
            game("the other one's strangers", Checks.ruled(Checks.table(4, "01", "03 13"), NEVER), 1, 3);
        });
    }

    // ---- 25: judge

    private static void judged(String of, ThreesAtTable x, int sheet, int first, int three) {
        due(of + ", the first that is none such", x.judge(sheet, 0), first);
        due(of + ", the first three", x.judge(sheet, 1), three);
    }

    private static ThreesAtTable told(ThreesAtTable x, int sort, int... items) {
        Checks.fill(x, 3, sort, items);
        return x;
    }

    private static void judge() {
        Checks.sentence("JUDGED: an empty SHEET, of each sort", () -> {
            for (int sort = 0; sort <= 2; sort++) {
                judged("no three", told(Checks.strangers(7), sort), 3, Checks.NONE, Checks.NONE);
                judged("a three stood there", told(Checks.friends(7), sort), 3, Checks.NONE, Checks.NONE);
            }
        });
        Checks.sentence("JUDGED: none such: of each number of GUESTS, each item from -20 to 130", () -> {
            for (int n = 1; n <= 7; n++) {
                for (int item = -20; item <= 130; item++) {
                    int i = item / 10;
                    int j = item % 10;
                    boolean pair = item >= 0 && i < n && j < n && i != j;
                    due("item " + item + " of " + n, told(Checks.strangers(n), 2, item).judge(3, 0), pair ? Checks.NONE : 0);
                }
            }
        });
        Checks.sentence("JUDGED: none such: far items, and what would be one if it wrapped", () -> {
            int[] far = {MIN, MAX, MIN + 1, -1, -10, -12, -21, 256 + 12, 65536 + 12, 1012, 120, 112};
            for (int item : far) due("item " + item, told(Checks.strangers(7), 2, 34, item).judge(3, 0), 1);
            due("a byte below 0", told(Checks.strangers(7), 0, 34, -12).judge(3, 0), 1);
            due("a byte that wraps", told(Checks.strangers(7), 0, 34, 256 + 12).judge(3, 0), Checks.NONE);
            due("a short that wraps", told(Checks.strangers(7), 1, 34, 65536 + 12).judge(3, 0), Checks.NONE);
        });
        Checks.sentence("JUDGED: any way round", () -> {
            due("told once each", told(Checks.strangers(7), 0, 10, 65, 2, 30).judge(3, 0), Checks.NONE);
            due("told again", told(Checks.strangers(7), 0, 10, 65, 1).judge(3, 0), 2);
            due("told again", told(Checks.strangers(7), 0, 56, 10, 65).judge(3, 0), 2);
        });
        Checks.sentence("JUDGED: is 1 already: at the table, or by an item ahead", () -> {
            due("at the table", told(Checks.table(4, "23", ""), 0, 1, 32, 2).judge(3, 0), 1);
            due("the first of all", told(Checks.friends(4), 0, 1).judge(3, 0), 0);
            due("by the item ahead", told(Checks.strangers(4), 0, 1, 1).judge(3, 0), 1);
            due("not looked at is not 1", told(nobodyLooked(4), 0, 1, 23).judge(3, 0), Checks.NONE);
        });
        Checks.sentence("JUDGED: a SHEET that is full: 40 items, all 21 pairs of seven", () -> {
            int[] items = new int[40];
            int at = 0;
            for (String pair : Checks.pairsOf(7).split(" ")) items[at++] = Integer.parseInt(pair);
            judged("the 22nd is none", told(Checks.strangers(7), 0, items), 3, 21, 2);
            int[] all = java.util.Arrays.copyOf(items, 21);
            judged("all 21", told(Checks.strangers(7), 2, all), 3, Checks.NONE, 2);
            items[21] = 65;
            judged("the 22nd is 1 already", told(Checks.strangers(7), 1, items), 3, 21, 2);
        });
        Checks.sentence("25: nothing becomes so", () -> {
            ThreesAtTable x = told(Checks.strangers(5), 0, 1, 2, 12);
            judged("three", x, 3, Checks.NONE, 2);
            due("pairs", x.count(1), 0);
            judged("again", x, 3, Checks.NONE, 2);
        });
        Checks.sentence("25: SHEETS 0 to 3", () -> {
            for (int sheet = 0; sheet <= 3; sheet++) {
                ThreesAtTable x = Checks.strangers(5);
                Checks.fill(x, sheet, sheet % 3, 1, 2, 99);
                judged("sheet " + sheet, x, sheet, 2, Checks.NONE);
                for (int other = 0; other <= 3; other++) if (other != sheet) due("missing", x.judge(other, 0), Checks.NOTHING);
            }
        });
        Checks.sentence("25: BAD: SHEET, what; nothing changes", () -> {
            Checks.refused("no such sheet", Checks.BAD, x -> x.judge(4, 0), x -> x.judge(-1, 0), x -> x.judge(4, 1), x -> x.judge(MIN, 0), x -> x.judge(MAX, 1));
            Checks.refused("no such thing", Checks.BAD, x -> x.judge(0, 2), x -> x.judge(0, -1), x -> x.judge(2, MIN), x -> x.judge(2, MAX));
        });
        Checks.sentence("25: -11: a missing SHEET; nothing changes; BAD ahead of it", () -> {
            Checks.refused("missing", Checks.NOTHING, x -> x.judge(3, 0), x -> x.judge(3, 1));
            Checks.refused("missing, and no such thing", Checks.BAD, x -> x.judge(3, 2), x -> x.judge(3, -1));
        });
    }

    private static void judgeThree() {
        Checks.sentence("JUDGED: the first behind which there is a THREE of FRIENDS", () -> {
            judged("behind the third", told(Checks.strangers(5), 0, 1, 12, 20, 34), 3, Checks.NONE, 2);
            judged("behind the first", told(Checks.table(5, "01 12", ""), 0, 20, 34), 3, Checks.NONE, 0);
            judged("behind the last", told(Checks.strangers(5), 0, 34, 1, 12, 20), 3, Checks.NONE, 3);
            judged("none", told(Checks.strangers(5), 0, 1, 12, 23, 34, 40), 3, Checks.NONE, Checks.NONE);
        });
        Checks.sentence("JUDGED: ahead of that: not the one that ends it, nor one behind", () -> {
            judged("behind it", told(Checks.strangers(5), 0, 1, 12, 99, 20), 3, 2, Checks.NONE);
            judged("ahead of it", told(Checks.strangers(5), 0, 1, 12, 20, 99), 3, 3, 2);
            judged("it ends at the first", told(Checks.table(5, "01 12", ""), 0, 1, 20), 3, 0, Checks.NONE);
            judged("a three stood there, it ends at the first", told(Checks.friends(3), 0, 1), 3, 0, Checks.NONE);
            judged("a three stood there, it ends at the second", told(Checks.table(5, "01 12 02", ""), 0, 34, 34), 3, 1, 0);
        });
        Checks.sentence("JUDGED: a THREE of FRIENDS, not of STRANGERS; if counts tells it", () -> {
            judged("strangers", told(Checks.strangers(5), 0, 34), 3, Checks.NONE, Checks.NONE);
            judged("none counts", told(Checks.ruled(Checks.strangers(5), NEVER), 0, 1, 12, 20), 3, Checks.NONE, Checks.NONE);
            judged("strangers count", told(Checks.ruled(Checks.strangers(5), "counts not know;costs 1;joy 1;"), 0, 1, 12, 20), 3, Checks.NONE, Checks.NONE);
            judged("123 counts, 012 not", told(Checks.ruled(Checks.strangers(5), "counts one=1;costs 1;joy 1;"), 0, 1, 12, 20, 13, 23), 3, Checks.NONE, 4);
        });
        Checks.sentence("JUDGED: pairs not LOOKED at that become 1, and those that stay", () -> {
            judged("become 1", told(nobodyLooked(4), 0, 1, 12, 20), 3, Checks.NONE, 2);
            judged("one stays", told(nobodyLooked(4), 0, 1, 12), 3, Checks.NONE, Checks.NONE);
        });
    }

    // ---- 26: drawn

    /** The threes that a SEED draws, if counts tells those of FRIENDS (1), of STRANGERS (0). */
    private static int threesOf(int n, int seed, int sort) {
        int[][] is = new int[7][7];
        int z = seed;
        for (int j = 1; j < n; j++) {
            for (int i = 0; i < j; i++) {
                z = (int) ((long) z * 1103515245L + 12345L);
                is[i][j] = (int) ((z & 0xffffffffL) / 8192 % 2);
            }
        }
        int threes = 0;
        for (int k = 2; k < n; k++) {
            for (int j = 1; j < k; j++) {
                for (int i = 0; i < j; i++) if (is[i][j] == sort && is[i][k] == sort && is[j][k] == sort) threes++;
            }
        }
        return threes;
    }

    private static void drawn() {
        int[] seeds = {0, 1, -1, 2, -2, 12345, -12345, MIN, MIN + 1, MAX, MAX - 1, 1 << 13, 1 << 12, 1 << 30, -1 << 30, 1103515245};
        Checks.sentence("DRAWN: by an int that wraps, of SEEDS of all sizes, of all numbers of GUESTS", () -> {
            for (int n = 1; n <= 7; n++) {
                ThreesAtTable x = Checks.strangers(n);
                for (int seed : seeds) due("seed " + seed + " of " + n, x.drawn(seed), threesOf(n, seed, 0) + threesOf(n, seed, 1));
            }
        });
        Checks.sentence("DRAWN: 1 or 0 by its lowest bit, friends or strangers", () -> {
            for (int n = 3; n <= 7; n++) {
                ThreesAtTable x = Checks.ruled(Checks.strangers(n), "counts know=3;costs 1;joy 1;");
                ThreesAtTable y = Checks.ruled(Checks.strangers(n), "counts know=0;costs 1;joy 1;");
                for (int seed : seeds) {
                    due("friends of " + seed, x.drawn(seed), threesOf(n, seed, 1));
                    due("strangers of " + seed, y.drawn(seed), threesOf(n, seed, 0));
                }
            }
        });
        Checks.sentence("DRAWN: no THREES of one GUEST, of two; none if none counts", () -> {
            for (int seed : seeds) {
                due("one guest", Checks.strangers(1).drawn(seed), 0);
                due("two guests", Checks.strangers(2).drawn(seed), 0);
                due("none counts", Checks.ruled(Checks.strangers(7), NEVER).drawn(seed), 0);
            }
        });
        Checks.sentence("DRAWN: were it: the table is not asked, and stays", () -> {
            for (int seed : seeds) {
                due("friends", Checks.friends(6).drawn(seed), Checks.strangers(6).drawn(seed));
                due("nobody has looked", nobodyLooked(6).drawn(seed), Checks.strangers(6).drawn(seed));
            }
            ThreesAtTable x = Checks.rich();
            String before = Checks.all(x);
            x.drawn(7);
            Checks.alike("all", Checks.all(x), before);
        });
    }

    // ---- 27: like

    private static void like() {
        Checks.sentence("27: nothing, if all is as it tells, or nobody has looked, or there is no pair", () -> {
            for (int kind = 0; kind <= 5; kind++) {
                for (int n = 1; n <= 7; n++) {
                    ThreesAtTable x = nobodyLooked(n);
                    x.town(kind, 4);
                    due("nobody has looked", x.like(0), 0);
                    x.asIn(0);
                    due("as it tells", x.like(0), 0);
                }
            }
        });
        Checks.sentence("27: all are otherwise: all PRICES together", () -> {
            // 1 and i, of all 21 pairs of seven together, is 56; 22 of it are pairs that are like modulo 2.
            ThreesAtTable x = Checks.friends(7);
            for (int kind = 0; kind < 5; kind++) x.town(kind, 9);
            due("town", x.like(0), 21);
            due("halves: friends that are like", x.like(1), 22);
            due("ring: 14 that are not next", x.like(2), 140);
            due("parts 9: all know", x.like(3), 0);
            x = Checks.strangers(7);
            for (int kind = 0; kind < 5; kind++) x.town(kind, 9);
            due("town", x.like(0), 0);
            due("halves: 12 unlike", x.like(1), 34);
            due("ring: 7 next", x.like(2), 70);
            due("parts 9: all, twice", x.like(3), 112);
            due("wheel 9: 0 to each, and the next", x.like(4), 9 + 8 + 7 + 6 + 5 + 4 + 8 + 7 + 6 + 5 + 4);
        });
        Checks.sentence("27: LOOKED at: one of those not is left out, whatever the TOWN tells", () -> {
            ThreesAtTable x = Checks.table(3, "02", "01");
            x.town(1, 0);
            due("02 too much, 12 too little", x.like(0), 1 + 2);
            x.meet(1, 2, 2);
            due("02 alone", x.like(0), 1);
            x.meet(0, 2, 2);
            due("none", x.like(0), 0);
        });
        Checks.sentence("27: PRICES of 0, of a WHEEL", () -> {
            ThreesAtTable x = Checks.strangers(7);
            x.town(4, 0);
            due("all of them 0", x.like(0), 0);
            x.town(4, 2);
            due("01 costs 2, 02 1, 12 1, the others 0; 02 is ring and 0's", x.like(1), 2 + 1 + 1);
        });
        Checks.sentence("27: the first TOWN and the fifth; BAD; nothing changes", () -> {
            ThreesAtTable x = Checks.strangers(3);
            for (int town = 0; town < 4; town++) x.town(0, 0);
            x.town(2, 6);
            due("the first", x.like(0), 0);
            due("the fifth", x.like(4), 21);
            due("none behind", x.like(5), Checks.BAD);
            due("no town at all", new ThreesAtTable().like(0), Checks.BAD);
            Checks.refused("like", Checks.BAD, y -> y.like(-1), y -> y.like(3), y -> y.like(5), y -> y.like(MIN), y -> y.like(MAX));
        });
    }

    // ---- 28, 29: image, back

    private static void image() {
        Checks.sentence("28: GUESTS, from 1 to 7", () -> {
            for (int n = 1; n <= 7; n++) {
                ThreesAtTable x = Checks.friends(n);
                due("image", x.image(), n);
                x.sit(8 - n);
                due("back", x.back(), n);
                due("guests", x.count(0), n);
                due("pairs", x.count(1), n * (n - 1) / 2);
            }
        });
        Checks.sentence("28: keeping changes nothing", () -> {
            ThreesAtTable x = Checks.rich();
            String before = Checks.all(x);
            due("image", x.image(), 6);
            Checks.alike("all", Checks.all(x), before);
        });
        Checks.sentence("28: AN IMAGE: the last one", () -> {
            ThreesAtTable x = Checks.table(3, "01", "");
            x.image();
            x.sit(5);
            x.meet(3, 4, 2);
            x.image();
            x.sit(2);
            due("back", x.back(), 5);
            due("34", x.told(3, 4), 2);
            due("01", x.told(0, 1), 0);
        });
    }

    private static void back() {
        Checks.sentence("29: STATE: there is none; nothing changes", () -> {
            ThreesAtTable x = Checks.table(3, "01", "12");
            x.town(3, 3);
            Checks.feed(x, "a");
            String before = Checks.all(x);
            due("back", x.back(), Checks.STATE);
            due("back again", x.back(), Checks.STATE);
            Checks.alike("all", Checks.all(x), before);
        });
        Checks.sentence("29: GUESTS, all pairs, THE RULE: all of it, and all the rest stays", () -> {
            ThreesAtTable x = Checks.rich();
            due("back", x.back(), 5);
            int[] counts = {5, 3, 1, 3, 2, 3, 1};
            for (int what = 0; what < 7; what++) due("count " + what, x.count(what), counts[what]);
            due("34", x.told(3, 4), 2);
            due("02", x.told(0, 2), 1);
            due("counts of the rule", x.threes(2), 1);
            due("joy of the rule", x.guest(0, 2), 5);
            due("the town that came since", x.taken(2, 1), 0);
            due("sheets", x.judge(0, 0), 2);
        });
        Checks.sentence("29: the pairs of each: 0, 1, 2 and who has gone", () -> {
            ThreesAtTable x = Checks.table(7, "01 56 36", "02 46 45");
            x.image();
            x.sit(1);
            due("back", x.back(), 7);
            int[][] due = {{0, 1, 1}, {5, 6, 1}, {3, 6, 1}, {0, 2, 2}, {4, 6, 2}, {4, 5, 2}, {1, 2, 0}, {0, 6, 0}};
            for (int[] d : due) due("told " + d[0] + d[1], x.told(d[0], d[1]), d[2]);
            due("pairs", x.count(1) * 10 + x.count(2), 33);
        });
        Checks.sentence("29: what counts is of the GUESTS and THE RULE that are back", () -> {
            ThreesAtTable x = Checks.ruled(Checks.strangers(4), "counts many=4;costs many;joy many;");
            x.image();
            x.sit(7);
            x.force(0);
            x.back();
            due("threes", x.threes(2), 4);
            due("drawn", x.drawn(5), Checks.strangers(4).drawn(5));
            due("joy", x.guest(3, 2), 4);
            due("costs", x.noneLeft(2), 8);
        });
        Checks.sentence("29: THE IMAGE stays: back again, also with what came behind it", () -> {
            ThreesAtTable x = Checks.table(4, "01", "");
            x.image();
            for (int time = 0; time < 3; time++) {
                x.meet(0, 1, 2);
                x.meet(2, 3, 1);
                x.sit(5 - time);
                due("back", x.back(), 4);
                due("01", x.told(0, 1), 1);
                due("pairs", x.count(1), 1);
            }
        });
        Checks.sentence("29: AN IMAGE of another object is none here", () -> {
            new ThreesAtTable().image();
            due("back", new ThreesAtTable().back(), Checks.STATE);
        });
    }

    // ---- 30: count

    private static void count() {
        Checks.sentence("30: each from its least to its most", () -> {
            ThreesAtTable x = Checks.strangers(1);
            int[] least = {1, 0, 0, 0, 1, 0, 0};
            for (int what = 0; what < 7; what++) due("count " + what, x.count(what), least[what]);
            x = Checks.friends(7);
            for (int town = 0; town < 5; town++) x.town(town, 0);
            for (int text = 1; text < 6; text++) Checks.read(x, Checks.PLAIN);
            x.force(5);
            for (int at = 0; at < 160; at++) x.feed(at);
            int[] most = {7, 21, 0, 5, 6, 160, 5};
            for (int what = 0; what < 7; what++) due("count " + what, x.count(what), most[what]);
            x = nobodyLooked(7);
            due("none is 1", x.count(1), 0);
            due("none is looked at", x.count(2), 21);
        });
        Checks.sentence("30: pairs of each number of GUESTS, those that are 1, those not LOOKED at", () -> {
            for (int n = 1; n <= 7; n++) {
                int pairs = n * (n - 1) / 2;
                due("friends", Checks.friends(n).count(1), pairs);
                due("friends, looked at", Checks.friends(n).count(2), 0);
                due("not looked at", nobodyLooked(n).count(2), pairs);
                due("strangers", Checks.strangers(n).count(1), 0);
            }
        });
        Checks.sentence("30: BAD; nothing changes", () ->
            Checks.refused("count", Checks.BAD, x -> x.count(-1), x -> x.count(7), x -> x.count(MIN), x -> x.count(MAX)));
    }
}
