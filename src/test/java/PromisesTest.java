/** Promises 1 to 35, each by calls whose answers were found by hand from the document's words. */
public final class PromisesTest {
    private static final int MIN = Integer.MIN_VALUE, MAX = Integer.MAX_VALUE;
    private static final String FULL_TEXT = "counts 1;costs 1;joy 1;";
    private static int promise;
    private static int calls;
    private static int wrong;

    public static void main(String[] args) {
        newObject();
        sit();
        meet();
        told();
        town();
        asIn();
        tells();
        feed();
        text();
        textFaults();
        textOpen();
        textValues();
        force();
        threes();
        guest();
        most();
        home();
        change();
        noneLeft();
        all();
        halved();
        fours();
        common();
        without();
        half();
        chance();
        game();
        judge();
        drawn();
        like();
        image();
        back();
        count();
        sheet();
        cell();
        copy();
        pairs();
        taken();
        System.out.println(calls + " answers looked at, " + wrong + " not as due");
        if (wrong != 0) System.exit(1);
    }

    private static void due(String call, long got, long want) {
        calls++;
        if (got == want) return;
        wrong++;
        System.out.println("promise " + promise + ": " + call + " answered " + got + ", due is " + want);
    }

    private static ThreesAtTable table(int n, int... friends) {
        ThreesAtTable x = new ThreesAtTable();
        x.sit(n);
        for (int pair : friends) x.meet(pair / 10, pair % 10, 1);
        return x;
    }

    private static void lookAway(ThreesAtTable x, int... pairs) {
        for (int pair : pairs) x.meet(pair / 10, pair % 10, 2);
    }

    private static int read(ThreesAtTable x, String words) {
        for (int at = 0; at < words.length(); at++) x.feed(words.charAt(at));
        return x.text();
    }

    private static ThreesAtTable ruled(int n, String words, int... friends) {
        ThreesAtTable x = table(n, friends);
        due("text " + words, read(x, words), 1);
        x.force(1);
        return x;
    }

    private static void fill(ThreesAtTable x, int sheet, int sort, int... items) {
        x.sheet(sheet, sort, items.length);
        for (int at = 0; at < items.length; at++) x.cell(sheet, at, items[at]);
    }

    private static void newObject() {
        promise = 1;
        ThreesAtTable x = new ThreesAtTable();
        int[] counts = {6, 0, 0, 0, 1, 0, 0};
        for (int what = 0; what < counts.length; what++) due("count " + what, x.count(what), counts[what]);
        for (int j = 1; j < 6; j++) for (int i = 0; i < j; i++) due("told " + i + j, x.told(i, j), 0);
        due("no image", x.back(), ThreesAtTable.STATE);
        for (int sheet = 0; sheet < 4; sheet++) due("missing sheet", x.cell(sheet, 0, 1), -11);
        due("first rule: costs", x.noneLeft(2), -1);
        due("first rule: joy", x.guest(0, 2), 5);
        due("first rule: counts", x.threes(2), 20);
        due("NONE", ThreesAtTable.NONE, -1);
        due("BAD", ThreesAtTable.BAD, -2);
        due("STATE", ThreesAtTable.STATE, -3);
        due("FULL", ThreesAtTable.FULL, -4);
        due("NO", ThreesAtTable.NO, -4611686018427387904L);
    }

    private static void sit() {
        promise = 2;
        ThreesAtTable x = table(6, 1, 12);
        x.town(2, 1);
        due("sit", x.sit(7), 6);
        due("how many", x.count(0), 7);
        due("none knows another", x.count(1), 0);
        due("threes of seven", x.threes(1), 35);
        x.meet(0, 6, 2);
        due("sit again", x.sit(7), 7);
        due("all looked at", x.count(2), 0);
        due("one", x.sit(1), 7);
        for (int bad : new int[] {0, 8, -1, MIN, MAX}) due("bad " + bad, x.sit(bad), -2);
        due("nothing changed", x.count(0), 1);
        due("towns stay", x.count(3), 1);
        x = ruled(4, "counts many=5;costs 0;joy many;");
        due("many of four", x.threes(2), 0);
        x.sit(5);
        due("many of five", x.threes(2), 10);
        due("joy by many", x.guest(4, 2), 5);
    }

    private static void meet() {
        promise = 3;
        ThreesAtTable x = table(4);
        due("meet", x.meet(0, 3, 1), 0);
        due("any way round", x.meet(3, 0, 2), 1);
        due("was not looked at", x.meet(0, 3, 0), 2);
        due("was 0", x.meet(0, 3, 0), 0);
        int[][] bad = {{0, 0, 1}, {4, 0, 1}, {0, 4, 1}, {-1, 0, 1}, {0, -1, 1}, {0, 1, 3}, {0, 1, -1},
            {MIN, MAX, 0}, {0, 1, MIN}, {0, 1, MAX}};
        for (int[] b : bad) due("bad " + b[0] + " " + b[1] + " " + b[2], x.meet(b[0], b[1], b[2]), -2);
        due("nothing changed", x.count(1) + x.count(2), 0);
        x.meet(2, 1, 1);
        due("that pair alone", x.told(1, 2) * 10 + x.count(1), 11);
    }

    private static void told() {
        promise = 4;
        ThreesAtTable x = table(7, 56);
        lookAway(x, 6);
        due("one", x.told(5, 6), 1);
        due("other way round", x.told(6, 5), 1);
        due("not looked at", x.told(0, 6), 2);
        due("no", x.told(0, 1), 0);
        int[][] bad = {{0, 0}, {6, 6}, {7, 0}, {0, 7}, {-1, 2}, {2, -1}, {MIN, MIN}, {MAX, 0}};
        for (int[] b : bad) due("bad " + b[0] + " " + b[1], x.told(b[0], b[1]), -2);
    }

    private static void town() {
        promise = 5;
        ThreesAtTable x = table(6);
        int[][] bad = {{-1, 0}, {6, 0}, {0, -1}, {0, 10}, {MIN, MAX}};
        for (int[] b : bad) due("bad " + b[0] + " " + b[1], x.town(b[0], b[1]), -2);
        for (int town = 0; town < 5; town++) due("its number", x.town(5 - town, 9 - town), town);
        due("bad ahead of full", x.town(6, 0), -2);
        due("full", x.town(0, 0), -4);
        due("full changes nothing", x.count(3), 5);
        due("its kind and number", x.taken(1, 4), 8);
    }

    private static void asIn() {
        promise = 6;
        ThreesAtTable x = table(6, 1);
        lookAway(x, 23);
        x.town(1, 0);
        x.town(0, 0);
        due("halves", x.asIn(0), 9);
        due("unlike", x.told(2, 3), 1);
        due("like", x.told(1, 3), 0);
        due("all looked at", x.count(2), 0);
        due("as it answered", x.count(1), 9);
        due("three and three strangers", x.threes(1), 2);
        due("nobody", x.asIn(1), 0);
        due("nobody knows", x.count(1), 0);
        for (int bad : new int[] {-1, 2, 5, MIN, MAX}) due("bad " + bad, x.asIn(bad), -2);
        x.asIn(0);
        x.sit(3);
        due("by GUESTS", x.asIn(0), 2);
    }

    private static void tells() {
        promise = 7;
        ThreesAtTable x = table(7);
        for (int kind = 1; kind < 6; kind++) x.town(kind, 4);
        // HALVES, RING, PARTS, WHEEL, LOT of NUMBER 4: who knows whom, then the PRICE.
        int[][] known = {{0, 1, 1, 1, 1, 1, 0}, {0, 4, 0, 1, 1, 1, 0}, {0, 5, 1, 0, 1, 1, 0}, {0, 6, 0, 1, 0, 1, 1},
            {1, 5, 0, 1, 1, 1, 0}, {1, 4, 1, 0, 1, 0, 0}, {2, 4, 0, 0, 1, 0, 0}, {0, 2, 0, 0, 1, 1, 0}};
        for (int[] k : known) {
            for (int town = 0; town < 5; town++) {
                due("knows " + town + ": " + k[0] + k[1], x.tells(town, k[0], k[1], 0), k[2 + town]);
            }
        }
        int[][] prices = {{0, 1, 1, 5, 2, 4, 5}, {1, 6, 2, 5, 4, 0, 8}, {5, 6, 6, 5, 12, 0, 5}, {1, 2, 2, 5, 4, 3, 8}};
        for (int[] p : prices) {
            for (int town = 0; town < 5; town++) {
                due("price " + town + ": " + p[0] + p[1], x.tells(town, p[0], p[1], 1), p[2 + town]);
            }
        }
        int[][] bad = {{5, 0, 1, 0}, {-1, 0, 1, 0}, {0, 1, 0, 0}, {0, 1, 1, 0}, {0, -1, 1, 0}, {0, 0, 7, 0}, {0, 0, 1, 2},
            {0, 0, 1, -1}, {MAX, MIN, MAX, MIN}};
        for (int[] b : bad) due("bad", x.tells(b[0], b[1], b[2], b[3]), -2);
        x.sit(5);
        due("ring of five", x.tells(1, 0, 4, 0), 1);
        due("guest too many", x.tells(1, 0, 5, 0), -2);
        tellsByNumber();
    }

    private static void tellsByNumber() {
        ThreesAtTable x = table(7);
        x.town(0, 9);
        x.town(2, 0);
        x.town(2, 2);
        x.town(4, 1);
        x.town(3, 0);
        due("a town knows none", x.tells(0, 0, 1, 0), 0);
        due("a town's price", x.tells(0, 4, 5, 1), 1);
        due("ring 0: next", x.tells(1, 3, 4, 0), 1);
        due("ring 0: not", x.tells(1, 2, 4, 0), 0);
        due("ring 0: price", x.tells(1, 2, 4, 1), 1);
        due("ring 2", x.tells(2, 2, 4, 0), 1);
        due("wheel: price below 0", x.tells(3, 3, 5, 1), 0);
        due("wheel: price 1", x.tells(3, 0, 1, 1), 1);
        due("parts 0 are halves", x.tells(4, 2, 4, 0), 0);
        x = table(7);
        x.town(3, 1);
        due("parts: unlike modulo 2 alone", x.tells(0, 0, 3, 0), 1);
        due("parts: unlike modulo 3 alone", x.tells(0, 0, 2, 0), 1);
        due("parts: like by both", x.tells(0, 0, 6, 0), 0);
        x = table(7);
        x.town(5, 2);
        due("lot: turned to yes", x.tells(0, 0, 5, 0), 1);
        due("lot: turned to no", x.tells(0, 0, 2, 0), 0);
        due("lot: as a ring, yes", x.tells(0, 0, 1, 0), 1);
        due("lot: as a ring, no", x.tells(0, 0, 4, 0), 0);
    }

    private static void feed() {
        promise = 8;
        ThreesAtTable x = new ThreesAtTable();
        for (int bad : new int[] {-1, 256, MIN, MAX}) due("bad " + bad, x.feed(bad), -2);
        due("bad ones do not come", x.count(5), 0);
        for (int at = 1; at <= 160; at++) due("fed", x.feed(at == 1 ? 0 : 255), at);
        due("bad ahead of full", x.feed(256), -2);
        due("full", x.feed(32), -4);
        due("full changes nothing", x.count(5), 160);
        due("a byte that begins none", x.text(), -100);
        due("empty again", x.feed(32), 1);
    }

    private static void text() {
        promise = 9;
        ThreesAtTable x = new ThreesAtTable();
        due("nothing fed", x.text(), -100);
        due("its number", read(x, FULL_TEXT), 1);
        due("tape is empty", x.count(5), 0);
        due("texts", x.count(4), 2);
        due("fault", read(x, "counts 1;costs 1 joy"), -117);
        due("tape is empty by a fault too", x.count(5), 0);
        due("no text by a fault", x.count(4), 2);
        for (int text = 2; text < 6; text++) due("its number", read(x, FULL_TEXT), text);
        due("full ahead of all", read(x, "?"), -4);
        due("tape stays", x.count(5), 1);
        due("texts at most", x.count(4), 6);
        due("rule stays", x.count(6), 0);
    }

    private static void textFaults() {
        String[] faults = {
            "costs 1;", "count 1;", "countss 1;", " counts", "\n \ncounts ;", "counts one other", "counts 1;joy 1;",
            "counts 12345;", "counts 00000;", "counts 1?;", "counts 1 2;", "counts A;", "counts\t1;", "counts 1 < 2 < 3;",
            "counts 1 = 2 < 3;", "counts 1 < not 2;", "counts 1 + not 2;", "counts - not 1;", "counts 1 or;", "counts or 1;",
            "counts (1;", "counts 1);", "counts ();", "counts 1 + * 2;", "counts 12a;", "counts seen4;", "counts notone;",
            "counts joy;", "counts 1;costs 1;joy 1", "counts 1;costs 1;joy 1  ", "counts 1;costs 1;joy 1; 1",
            "counts 1;costs 1;joy 1;;", "counts 1;costs 1;joy 1; \n x", "counts (1 < 2) < (2 = 3) < 1;", "counts 1 <= 2;",
            "counts not;", "counts 1,2;", "counts ~1;", "counts 1/2;"};
        int[] places = {
            0, 0, 0, 7, 10, 11, 9,
            7, 7, 8, 9, 7, 6, 13,
            13, 11, 11, 9, 11, 7,
            9, 8, 8, 11, 9, 11, 7,
            7, 22, 24, 24,
            23, 26, 25, 10,
            10, 8, 7, 8};
        for (int at = 0; at < faults.length; at++) {
            due("fault of '" + faults[at] + "'", read(new ThreesAtTable(), faults[at]), -100 - places[at]);
        }
        StringBuilder longest = new StringBuilder(FULL_TEXT);
        while (longest.length() < 160) longest.append(longest.length() % 2 == 0 ? ' ' : '\n');
        for (char sign = 0; sign < 256; sign++) {
            if ("abcdefghijklmnopqrstuvwxyz0123456789();+-*<= \n".indexOf(sign) >= 0) continue;
            due("byte " + (int) sign + " behind", read(new ThreesAtTable(), FULL_TEXT + sign), -100 - FULL_TEXT.length());
            due("byte " + (int) sign + " for a ONE", read(new ThreesAtTable(), "counts " + sign + ";"), -107);
        }
        for (String word : new String[] {"gnow", "knov", "kno", "knowz", "zknow", "nano", "tone", "on", "os"}) {
            due("word " + word, read(new ThreesAtTable(), "counts 1;costs " + word + ";"), -115);
        }
        due("word countsz", read(new ThreesAtTable(), "countsz"), -100);
        due("a tape full of blanks", read(new ThreesAtTable(), longest.toString()), 1);
        due("no blanks needed", read(new ThreesAtTable(), "counts(one)costs"), -111);
    }

    private static void textOpen() {
        String[] opens = {"(((((1)))))", "not not not not not 1", "-----1", "not(not(-1))", "not not not not -1 and not not not not -1",
            "(1)*(2)+(3)-(4)<(5)or(6)and(7)", "-(-(-1)) + -(-(-1))", "1------1"};
        for (String open : opens) due("open " + open, read(new ThreesAtTable(), "counts " + open + ";costs 1;joy 1;"), 1);
        String[] faults = {"((((((1))))))", "not not not not not not 1", "------1", "not(not(-(1)))", "(((((-1)))))",
            "(((((not 1)))))", "-(-(-1 * -1) - 1)", "-(-(-1 * --1))", "not(1 and not(1 and not 1 or (2)))", "1-------1"};
        int[] places = {5, 20, 5, 9, 5, 5, -1, 10, -1, 7};
        for (int at = 0; at < faults.length; at++) {
            int want = places[at] < 0 ? 1 : -107 - places[at];
            due("open " + faults[at], read(new ThreesAtTable(), "counts " + faults[at] + ";costs 1;joy 1;"), want);
        }
        due("a not is open till its SUM ends", read(new ThreesAtTable(), "counts not not not 1 < ((-1));"), -100 - 25);
        due("a minus ends with its ONE", read(new ThreesAtTable(), "counts not not not -1 + -(1);costs 1;joy 1;"), 1);
    }

    private static void textValues() {
        String[] sums = {"7", "2+3*4", "(2+3)*4", "10-3-2", "10 - -3", "-3+10", "--5", "2*-3+10", "9999*9999*9999*0+3",
            "1<2", "2<1", "2<2", "2=2", "1+1=2", "3 or 0", "0 or 0", "0 or 2", "5 and 7", "5 and 0", "not 0", "not 7", "not not 7",
            "not 1 < 0", "(not 1) < 1", "1 or 1 and 0", "(1 or 1) and 0", "not 0 and 0", "not 0 + 1", "0 and 0 or 1",
            "100", "98+1", "98+2", "0-1", "one*10+many", "other", "third", "know", "seen", "-(2-9)", "0007", "2 \n +\n2",
            "9999*9999*9999*9999 < 0", "9999*9999*9999 < 0", "1 and 1 and 1 and 0", "0 or 0 or 4", "1=1+0", "3*2-1*2"};
        int[] values = {7, 14, 20, 5, 13, 7, 5, 4, 3,
            1, 0, 0, 1, 1, 1, 0, 1, 1, 0, 1, 0, 1,
            1, 1, 1, 0, 0, 0, 1,
            99, 99, 99, 0, 25, 0, 0, 1, 0, 7, 7, 4,
            0, 0, 0, 1, 1, 4};
        values[41] = bit(9999 * 9999 * 9999 * 9999 < 0);
        values[42] = bit(9999 * 9999 * 9999 < 0);
        for (int at = 0; at < sums.length; at++) {
            ThreesAtTable x = ruled(5, "counts 1;costs 1;joy " + sums[at] + ";", 24);
            due("joy " + sums[at], x.guest(2, 2), values[at]);
        }
    }

    private static int bit(boolean is) {
        return is ? 1 : 0;
    }

    private static void force() {
        promise = 10;
        ThreesAtTable x = table(6);
        due("not there yet", x.force(1), -2);
        read(x, "counts 0;costs 1;joy 9;");
        due("reading is not forcing", x.threes(2), 20);
        due("which was", x.force(1), 0);
        due("another rule", x.threes(2), 0);
        due("its joy", x.guest(0, 2), 9);
        due("which was", x.force(0), 1);
        due("the first rule", x.threes(2), 20);
        for (int bad : new int[] {-1, 2, 6, MIN, MAX}) due("bad " + bad, x.force(bad), -2);
        due("nothing changed", x.count(6), 0);
    }

    private static void threes() {
        promise = 11;
        ThreesAtTable x = table(6, 1, 2, 12, 34, 35, 45);
        due("friends", x.threes(0), 2);
        due("strangers", x.threes(1), 0);
        due("all", x.threes(2), 2);
        due("first", x.threes(3), 12);
        due("by degrees", x.threes(4), 2);
        lookAway(x, 12);
        due("not looked at is no friend", x.threes(0), 1);
        due("first now", x.threes(3), 345);
        lookAway(x, 34);
        due("none", x.threes(3), -1);
        // 01, 02, 35, 45 are left: 0 and 5 know two, the others one.
        due("by degrees, not looked at as 0", x.threes(4), 20 - (2 * 2 * 3 + 4 * 1 * 4) / 2);
        for (int bad : new int[] {-1, 5, MIN, MAX}) due("bad " + bad, x.threes(bad), -2);
        x = table(5, 14, 13, 34);
        lookAway(x, 2);
        due("first by i, then j", x.threes(3), 134);
        due("strangers but for 02", x.threes(1), 0);
        x.meet(0, 2, 0);
        due("strangers", x.threes(1), 3);
        due("first of both sorts", x.threes(3), 12);
        // 0, 1, 5 and 2, 3, 4 are friends: the first is told by i, not by the greatest of its three.
        x = table(6, 1, 5, 15, 23, 24, 34);
        due("first by i", x.threes(3), 15);
        due("sit of two", table(2).threes(4), 0);
        x = ruled(5, "counts know=3 and third=2 or third=4 and not know;costs 1;joy 1;", 1, 2, 12, 3, 13);
        due("friends by rule", x.threes(0), 1);
        due("strangers by rule", x.threes(1), 1);
        due("first by rule", x.threes(3), 12);
        due("degrees ask no rule", x.threes(4), 3);
        x = ruled(4, "counts seen=3 and many=4 and one=1;costs 1;joy 1;");
        due("by seen, many, one", x.threes(2), 1);
        due("first by one", x.threes(3), 123);
    }

    private static void guest() {
        promise = 12;
        ThreesAtTable x = table(5, 1, 2, 12, 3);
        lookAway(x, 4);
        due("knows", x.guest(0, 0), 3);
        due("knows one", x.guest(3, 0), 1);
        due("threes", x.guest(0, 1), 1);
        due("threes of both sorts", x.guest(1, 1), 2);
        due("strangers", x.guest(4, 1), 2);
        due("joy", x.guest(0, 2), 2);
        due("joy of one who knows none", x.guest(4, 2), 5);
        int[][] bad = {{5, 0}, {-1, 0}, {0, 3}, {0, -1}, {MAX, MIN}};
        for (int[] b : bad) due("bad", x.guest(b[0], b[1]), -2);
        x = ruled(5, "counts 1;costs 1;joy one*10+other*50+third*50+seen*50+know+many;", 34);
        due("joy by names", x.guest(4, 2), 46);
    }

    private static void most() {
        promise = 13;
        due("first of like ones", table(6).most(), 0);
        due("none", table(2).most(), -1);
        due("none of one sort", table(5, 1, 12, 23, 34, 4).most(), -1);
        ThreesAtTable x = table(5, 1, 12, 23, 34, 4, 24);
        due("one three", x.most(), 2);
        x = table(6, 3, 13, 23, 1, 12);
        lookAway(x, 45, 24, 25, 14, 15, 4, 5, 34);
        due("in two", x.most(), 1);
        due("by rule", ruled(5, "counts third=4 and other=3;costs 1;joy 1;").most(), 3);
    }

    private static void home() {
        promise = 14;
        ThreesAtTable x = table(6, 1, 2, 12, 34, 35, 45);
        due("how many", x.home(0), 2);
        due("the least as bits", x.home(1), 9);
        due("joy of those who stay", x.home(2), 12);
        x = table(5, 1, 12, 23, 34, 4);
        due("nobody", x.home(0), 0);
        due("no bits", x.home(1), 0);
        due("joy of all", x.home(2), 15);
        for (int bad : new int[] {-1, 3, MIN, MAX}) due("bad " + bad, x.home(bad), -2);
        x = ruled(5, "counts third=4 and other=3;costs 1;joy one*60-60;");
        due("one by rule", x.home(0), 1);
        due("who by rule", x.home(1), 8);
        due("joy, bounded each", x.home(2), 60 + 99);
        due("nobody goes", x.count(0), 5);
    }

    private static void change() {
        promise = 15;
        ThreesAtTable x = table(5, 1, 12, 23, 34, 4, 2);
        due("the least number", x.change(0), 1);
        due("threes then", x.change(1), 0);
        due("nothing is changed", x.told(0, 2), 1);
        lookAway(x, 2);
        due("none fewer", x.change(0), -1);
        due("none fewer, then", x.change(1), -1);
        for (int bad : new int[] {-1, 2, MIN, MAX}) due("bad " + bad, x.change(bad), -2);
        due("pair 0", table(6).change(0), 0);
        due("threes without pair 0", table(6).change(1), 16);
        x = table(4, 1, 2, 12);
        lookAway(x, 1, 3, 13, 23);
        due("nothing stands", x.change(0), -1);
        x.meet(0, 1, 1);
        due("only pairs looked at", x.change(0), 0);
        x = ruled(4, "counts 1;costs 9-know*other;joy 1;", 1, 2, 12);
        lookAway(x, 3, 13, 23);
        due("least costs, of like ones least number", x.change(0), 1);
        x = ruled(3, "counts 1;costs 0-one;joy 1;");
        due("costs are 0 at least", x.change(0), 0);
        x = ruled(3, "counts 1;costs 200-one;joy 1;");
        due("costs are 99 at most", x.change(0), 0);
        x = ruled(3, "counts 1;costs 70-one*seen;joy 1;");
        due("costs by seen and one", x.change(0), 2);
        x = ruled(3, "counts not know;costs third+many;joy 1;");
        due("counts is told of the table then", x.change(1), 0);
        due("no three then", x.change(0), 0);
    }

    private static void noneLeft() {
        promise = 16;
        ThreesAtTable x = table(5, 1, 12, 23, 34, 4, 2);
        due("one", x.noneLeft(0), 1);
        due("that pair", x.noneLeft(1), 2);
        due("its costs", x.noneLeft(2), 1);
        due("nothing is changed", x.told(0, 2), 1);
        x.meet(0, 2, 0);
        for (int what = 0; what < 3; what++) due("none needed", x.noneLeft(what), 0);
        for (int bad : new int[] {-1, 3, MIN, MAX}) due("bad " + bad, x.noneLeft(bad), -2);
        for (int what = 0; what < 3; what++) due("not by three", table(6).noneLeft(what), -1);
        x = table(4);
        due("two", x.noneLeft(0), 2);
        due("least as bits", x.noneLeft(1), 12);
        due("costs of two", x.noneLeft(2), 2);
        x = ruled(4, "counts 1;costs 1+(one=1 and other=2)*5;joy 1;");
        due("of least costs", x.noneLeft(1), 18);
        due("least costs", x.noneLeft(2), 2);
        x = table(3, 1, 2, 12);
        lookAway(x, 1);
        due("not looked at", x.noneLeft(0), 0);
        x = ruled(7, "counts third=other+1 and other=one+1 and one<6 and not one=1 and not one=3;costs 1;joy 1;");
        due("three threes far apart", x.noneLeft(0), 3);
        x = ruled(7, "counts third=other+1 and other=one+1;costs 1;joy 1;");
        due("chain of five threes", x.noneLeft(0), 3);
        due("chain of five threes, bits", x.noneLeft(1), 1 + (1 << 5) + (1 << 14));
        x = ruled(7, "counts one=0;costs 1;joy 1;");
        due("six round one by three", x.noneLeft(0), -1);
        x = ruled(7, "counts one=0 and third-other=1;costs other;joy 1;");
        due("three by costs", x.noneLeft(0), 3);
        due("three by costs, bits", x.noneLeft(1), 1 + (1 << 3) + (1 << 10));
        due("three by costs, costs", x.noneLeft(2), 1 + 3 + 5);
        due("four needed", ruled(6, "counts one=0;costs 1;joy 1;").noneLeft(0), -1);
        due("three needed", ruled(5, "counts one=0;costs 1;joy 1;").noneLeft(0), 3);
        due("costs of strangers by names", ruled(3, "counts 1;costs third*50+seen*10+know*7+many;joy 1;").noneLeft(2), 13);
        due("costs of friends by names", ruled(3, "counts 1;costs third*50+seen*10+know*7+many;joy 1;", 1, 2, 12).noneLeft(2), 20);
        due("costs, bounded each", ruled(4, "counts 1;costs 60+one*99-other*99;joy 1;").noneLeft(2), 0);
        due("costs are 99 at most", ruled(4, "counts 1;costs 9999;joy 1;").noneLeft(2), 198);
    }

    private static void all() {
        promise = 17;
        ThreesAtTable x = table(6, 1, 2, 12, 23, 24, 34);
        due("friends", x.all(1, 0), 3);
        due("least as bits", x.all(1, 1), 7);
        due("strangers", x.all(0, 0), 3);
        due("who are strangers", x.all(0, 1), 1 + 8 + 32);
        lookAway(x, 3, 4, 13, 14);
        due("not looked at is neither", x.all(0, 0), 2);
        due("who then", x.all(0, 1), 33);
        lookAway(x, 2);
        due("friends but for 02", x.all(1, 1), 28);
        int[][] bad = {{2, 0}, {-1, 0}, {0, 2}, {0, -1}, {MIN, MAX}};
        for (int[] b : bad) due("bad", x.all(b[0], b[1]), -2);
        due("counts is not asked", ruled(4, "counts 0;costs 1;joy 1;").all(0, 0), 4);
        due("one alone", table(1).all(0, 1), 1);
    }

    private static void halved() {
        promise = 18;
        ThreesAtTable x = table(5, 1, 12, 23, 34, 4);
        due("an odd ring", x.halved(0), 1);
        due("least part of guest 0", x.halved(1), 5);
        x = table(4, 1, 2, 3, 12, 13, 23);
        due("all friends", x.halved(0), 2);
        due("least of like parts", x.halved(1), 3);
        x = table(4, 12, 13);
        lookAway(x, 23);
        due("none within", x.halved(0), 0);
        due("guest 1 with guest 0", x.halved(1), 3);
        due("nobody knows: one alone", table(6).halved(1), 1);
        due("only one", table(1).halved(1), 1);
        for (int bad : new int[] {-1, 2, MIN, MAX}) due("bad " + bad, x.halved(bad), -2);
    }

    private static void fours() {
        promise = 19;
        due("none", table(6).fours(), 0);
        due("one ring", table(4, 1, 12, 23, 3).fours(), 1);
        due("four friends", table(4, 1, 2, 3, 12, 13, 23).fours(), 3);
        due("seven friends", sevenFriends().fours(), 105);
        ThreesAtTable x = table(4, 1, 12, 23, 3);
        lookAway(x, 3);
        due("not looked at", x.fours(), 0);
        due("a chord does no harm", table(5, 1, 12, 23, 3, 2).fours(), 1);
    }

    private static ThreesAtTable sevenFriends() {
        ThreesAtTable x = table(7);
        for (int j = 1; j < 7; j++) for (int i = 0; i < j; i++) x.meet(i, j, 1);
        return x;
    }

    private static void common() {
        promise = 20;
        ThreesAtTable x = table(5, 2, 12, 23, 24, 1, 34);
        due("a windmill", x.common(0), 1);
        due("who knows all", x.common(1), 2);
        x.meet(3, 4, 0);
        due("no longer", x.common(0), 0);
        due("who still knows all", x.common(1), 2);
        lookAway(x, 2);
        due("not looked at", x.common(1), -1);
        due("too many in common", table(4, 1, 2, 3, 12, 13, 23).common(0), 0);
        due("the least who knows all", table(4, 1, 2, 3, 12, 13, 23).common(1), 0);
        due("alone", table(1).common(0), 1);
        due("alone knows all", table(1).common(1), 0);
        due("two", table(2, 1).common(0), 0);
        for (int bad : new int[] {-1, 2, MIN, MAX}) due("bad " + bad, x.common(bad), -2);
    }

    private static void without() {
        promise = 21;
        ThreesAtTable x = ruled(3, "counts 0;costs 1;joy 1;");
        int[] ways = {1, 2, 6, 18, 12};
        int[] least = {0, 0, 1, 12, 236};
        for (int n = 1; n <= 5; n++) {
            due("ways of " + n, x.without(n, 0), ways[n - 1]);
            due("least of " + n, x.without(n, 1), least[n - 1]);
        }
        int[][] bad = {{0, 0}, {6, 0}, {-1, 1}, {3, 2}, {3, -1}, {MIN, MAX}};
        for (int[] b : bad) due("bad", x.without(b[0], b[1]), -2);
    }

    private static void half() {
        promise = 22;
        ThreesAtTable x = table(3);
        lookAway(x, 1, 2, 12);
        due("three not looked at", x.half(0), 6);
        due("most", x.half(1), 1);
        x = table(4, 1, 2, 3);
        lookAway(x, 12, 13, 23);
        due("only all strangers of the others, and pairs with 0", x.half(0), 0);
        due("most of four", x.half(1), 4);
        due("all looked at", table(5).half(0), 0);
        x = table(5);
        due("all looked at, most", x.half(1), 10);
        x.sit(2);
        due("most anew", x.half(1), 0);
        x = table(5);
        lookAway(x, 1, 2, 3, 4, 12, 13, 14, 23, 24, 34);
        due("ten: as WITHOUT", x.half(0), 12);
        due("ten: most", x.half(1), 10);
        due("nothing is changed", x.count(2), 10);
        x = table(6);
        lookAway(x, 1, 2, 3, 4, 12, 13, 14, 23, 24, 34, 45);
        due("eleven", x.half(0), -3);
        due("eleven, most", x.half(1), -3);
        due("bad ahead", x.half(2), -2);
        for (int bad : new int[] {-1, MIN, MAX}) due("bad " + bad, x.half(bad), -2);
        x = ruled(3, "counts know;costs 1;joy 1;");
        lookAway(x, 1, 2, 12);
        due("by rule", x.half(0), 7);
        x = ruled(3, "counts seen=3;costs 1;joy 1;");
        lookAway(x, 1);
        due("each way is looked at", x.half(0), 1);
    }

    private static void chance() {
        promise = 23;
        ThreesAtTable x = table(3);
        lookAway(x, 1, 2, 12);
        due("above", x.chance(0), 1);
        due("below", x.chance(1), 4);
        due("sure, above", table(3).chance(0), 1);
        due("sure, below", table(3).chance(1), 1);
        due("never, above", table(2).chance(0), 0);
        due("never, below", table(2).chance(1), 1);
        x = table(2);
        lookAway(x, 1);
        due("never, of two ways", x.chance(0) * 10 + x.chance(1), 1);
        x = table(5);
        lookAway(x, 1, 2, 3, 4, 12, 13, 14, 23, 24, 34);
        due("ten, above", x.chance(0), 253);
        due("ten, below", x.chance(1), 256);
        for (int bad : new int[] {-1, 2, MIN, MAX}) due("part " + bad, x.chance(bad), ThreesAtTable.NO);
        x.sit(6);
        lookAway(x, 1, 2, 3, 4, 12, 13, 14, 23, 24, 34, 45);
        due("eleven", x.chance(0), ThreesAtTable.NO);
        due("eleven", x.chance(1), ThreesAtTable.NO);
    }

    private static void game() {
        promise = 24;
        ThreesAtTable x = table(3, 1, 2);
        lookAway(x, 12);
        due("must lose", x.game(0), -1);
        due("by the least pair", x.game(1), 2);
        x = table(4, 1);
        lookAway(x, 3, 13);
        x.meet(0, 2, 0);
        x.meet(1, 2, 0);
        x.meet(2, 3, 0);
        due("the second must lose", x.game(0), 1);
        due("by which pair", x.game(1), 3);
        x = table(4, 1, 2);
        lookAway(x, 12, 23);
        x.meet(0, 3, 1);
        x.meet(1, 3, 0);
        due("any turn loses", x.game(0), -1);
        due("the least of like ones", x.game(1), 2);
        x = table(4);
        due("all looked at", x.game(0), 0);
        due("all looked at, pair", x.game(1), -1);
        lookAway(x, 1, 2, 3, 12, 13, 23);
        due("from the beginning", x.game(0), 0);
        due("from the beginning, by", x.game(1), 0);
        x = table(4, 1, 12);
        lookAway(x, 3, 13);
        due("wins", x.game(0), 1);
        due("not by the least that is free", x.game(1), 4);
        x = table(4, 1);
        lookAway(x, 23);
        due("the last pair", x.game(1), 5);
        due("the last pair loses nothing", x.game(0), 0);
        x = ruled(3, "counts 0;costs 1;joy 1;", 1, 2);
        lookAway(x, 12);
        due("counts is not asked", x.game(0), -1);
        x = table(5);
        due("five guests", x.game(0), -3);
        due("bad ahead", x.game(2), -2);
        for (int bad : new int[] {-1, MIN, MAX}) due("bad " + bad, x.game(bad), -2);
        due("one guest", table(1).game(1), -1);
    }

    private static void judge() {
        promise = 25;
        ThreesAtTable x = table(5, 1);
        fill(x, 0, 2, 20, 2, 12);
        due("told again, the other way round", x.judge(0, 0), 1);
        due("no three ahead of it", x.judge(0, 1), -1);
        fill(x, 0, 2, 20, 12, 34, 43);
        due("the fourth", x.judge(0, 0), 3);
        due("a three behind the second", x.judge(0, 1), 1);
        due("nothing is changed", x.count(1), 1);
        lookAway(x, 2);
        due("not looked at becomes 1", x.judge(0, 1), 1);
        for (int none : new int[] {0, 1, 5, 50, 10, 11, 44, 55, 100, 51, 19, -1, -12, MIN, MAX}) {
            fill(x, 1, 2, 23, none);
            due("none such: " + none, x.judge(1, 0), 1);
        }
        fill(x, 1, 0, 41, 3);
        due("all are such", x.judge(1, 0), -1);
        x.meet(0, 2, 1);
        x.meet(1, 2, 1);
        due("a three stood there before", x.judge(1, 1), 0);
        fill(x, 1, 1, 99);
        due("a three, but the first is none such", x.judge(1, 1), -1);
        x.sheet(2, 0, 0);
        due("an empty sheet", x.judge(2, 0), -1);
        due("an empty sheet, no three", x.judge(2, 1), -1);
        due("missing", x.judge(3, 0), -11);
        due("bad ahead of missing", x.judge(3, 2), -2);
        int[][] bad = {{4, 0}, {-1, 0}, {0, -1}, {0, 2}, {MIN, MAX}};
        for (int[] b : bad) due("bad", x.judge(b[0], b[1]), -2);
        x = ruled(5, "counts not know;costs 1;joy 1;", 1, 2);
        fill(x, 0, 0, 12);
        due("friends by rule, strangers not", x.judge(0, 1), -1);
    }

    private static void drawn() {
        promise = 26;
        ThreesAtTable x = table(3, 1);
        int[] z = {12345, 12345 * 1103515245 + 12345, 0};
        z[2] = z[1] * 1103515245 + 12345;
        int ones = 0;
        for (int number : z) ones += (number >>> 13) % 2;
        due("seed 0", x.drawn(0), ones % 3 == 0 ? 1 : 0);
        due("nothing is changed", x.count(1), 1);
        x = table(6);
        due("seed 5", x.drawn(5), 6);
        due("seed -77", x.drawn(-77), 6);
        due("by rule", ruled(6, "counts 0;costs 1;joy 1;").drawn(5), 0);
        due("two guests", table(2).drawn(MIN), 0);
        for (int seed = -64; seed < 64; seed++) {
            ones = 0;
            int number = seed;
            for (int pair = 0; pair < 3; pair++) {
                number = number * 1103515245 + 12345;
                ones += (number >>> 13) % 2;
            }
            due("friends of seed " + seed, ruled(3, "counts know=3;costs 1;joy 1;").drawn(seed), ones == 3 ? 1 : 0);
            due("strangers of seed " + seed, ruled(3, "counts know=0;costs 1;joy 1;").drawn(seed), ones == 0 ? 1 : 0);
        }
    }

    private static void like() {
        promise = 27;
        ThreesAtTable x = table(3, 12);
        x.town(1, 0);
        x.town(2, 4);
        due("one is otherwise", x.like(0), 1);
        due("ring of three", x.like(1), 10);
        lookAway(x, 1);
        due("not looked at", x.like(0), 0);
        due("not looked at, ring", x.like(1), 5);
        x.meet(0, 2, 1);
        due("a friend too many", x.like(0), 1);
        for (int bad : new int[] {-1, 2, 5, MIN, MAX}) due("bad " + bad, x.like(bad), -2);
    }

    private static void image() {
        promise = 28;
        ThreesAtTable x = table(4, 1);
        due("guests", x.image(), 4);
        due("nothing is changed", x.count(1), 1);
        x.sit(3);
        due("kept anew", x.image(), 3);
        x.sit(7);
        due("the newer one", x.back(), 3);
    }

    private static void back() {
        promise = 29;
        ThreesAtTable x = table(4, 1);
        due("there is none", x.back(), -3);
        lookAway(x, 13);
        read(x, "counts many=4;costs 1;joy 7;");
        x.force(1);
        x.image();
        x.force(0);
        x.sit(7);
        x.town(0, 0);
        read(x, FULL_TEXT);
        x.feed(99);
        fill(x, 0, 0, 5);
        due("back", x.back(), 4);
        due("guests", x.count(0), 4);
        due("a friend", x.told(0, 1), 1);
        due("not looked at", x.told(1, 3), 2);
        due("nothing else", x.count(1) * 10 + x.count(2), 11);
        due("the rule", x.count(6), 1);
        due("joy by the rule", x.guest(0, 2), 7);
        due("counts by the rule", x.threes(2), 1);
        due("towns stay", x.count(3), 1);
        due("texts stay", x.count(4), 3);
        due("the tape stays", x.count(5), 1);
        due("sheets stay", x.cell(0, 0, 0), 1);
        x.meet(0, 1, 0);
        due("back again", x.back(), 4);
        due("the same image", x.told(0, 1), 1);
    }

    private static void count() {
        promise = 30;
        ThreesAtTable x = table(7, 1, 12);
        lookAway(x, 23, 34, 45);
        x.town(0, 0);
        read(x, FULL_TEXT);
        read(x, FULL_TEXT);
        for (int at = 0; at < 9; at++) x.feed(7);
        x.force(2);
        int[] counts = {7, 2, 3, 1, 3, 9, 2};
        for (int what = 0; what < counts.length; what++) due("count " + what, x.count(what), counts[what]);
        for (int bad : new int[] {-1, 7, MIN, MAX}) due("bad " + bad, x.count(bad), -2);
    }

    private static void sheet() {
        promise = 31;
        ThreesAtTable x = new ThreesAtTable();
        for (int sheet = 0; sheet < 4; sheet++) due("a row", x.sheet(sheet, sheet % 3, 40), 1);
        due("its last item", x.cell(3, 39, 1), 1);
        due("none behind it", x.cell(3, 40, 1), -12);
        due("missing", x.sheet(3, -1, MIN), 1);
        due("is missing", x.cell(3, 0, 1), -11);
        due("missing again", x.sheet(3, -1, MAX), 1);
        int[][] bad = {{4, 0, 1}, {-1, 0, 1}, {0, 3, 1}, {0, -2, 1}, {0, 0, 41}, {0, 0, MAX}, {4, -1, 0}, {0, 3, -1}, {MIN, MIN, MIN}};
        for (int[] b : bad) due("bad", x.sheet(b[0], b[1], b[2]), -2);
        due("a size below 0", x.sheet(0, 0, -1), -14);
        due("far below 0", x.sheet(0, 2, MIN), -14);
        due("nothing changed", x.cell(0, 39, 1), 1);
        fill(x, 1, 2, 23, 45);
        x.sheet(1, 2, 2);
        due("all 0 again", x.judge(1, 0), 0);
        due("no items", x.sheet(1, 1, 0), 1);
        due("none to write", x.cell(1, 0, 0), -12);
    }

    private static void cell() {
        promise = 32;
        ThreesAtTable x = table(6);
        x.sheet(0, 0, 2);
        x.sheet(1, 1, 2);
        x.sheet(2, 2, 2);
        due("byte", x.cell(0, 0, 256 + 23), 1);
        due("lowest 8 bits", x.judge(0, 0), 1);
        x.cell(1, 0, 65536 + 23);
        due("lowest 16 bits", x.judge(1, 0), 1);
        x.cell(1, 0, 256 + 23);
        due("of a short not 8", x.judge(1, 0), 0);
        x.cell(2, 0, 65536 + 23);
        due("of an int all", x.judge(2, 0), 0);
        int[][] bad = {{4, 0, 0}, {-1, 0, 0}, {MIN, MAX, 0}};
        for (int[] b : bad) due("bad", x.cell(b[0], b[1], b[2]), -2);
        due("missing", x.cell(3, -1, 0), -11);
        for (int at : new int[] {-1, 2, MIN, MAX}) due("outside " + at, x.cell(0, at, 0), -12);
    }

    private static void copy() {
        promise = 33;
        ThreesAtTable x = table(7);
        fill(x, 0, 2, 1, 12, 23, 34, 45, 99);
        fill(x, 1, 2, 0, 0, 0);
        due("from one to another", x.copy(0, 1, 1, 0, 3), 3);
        due("they came", x.judge(1, 0), -1);
        due("as they were, forth", x.copy(0, 0, 0, 1, 4), 4);
        due("the first twice now", x.judge(0, 0), 1);
        fill(x, 0, 2, 1, 12, 23, 34, 45, 99);
        x.copy(0, 0, 0, 2, 3);
        x.cell(0, 0, 56);
        x.cell(0, 1, 46);
        due("01 12 23 from item 2 on", x.judge(0, 0), 5);
        fill(x, 0, 2, 1, 12, 23, 34, 45, 99);
        due("as they were, back", x.copy(0, 1, 0, 0, 4), 4);
        due("then 12 23 34 45 45", x.judge(0, 0), 4);
        due("none", x.copy(0, 6, 1, 3, 0), 0);
        int[][] outside = {{-1, 0, 1}, {0, -1, 1}, {0, 0, -1}, {0, 1, 3}, {4, 0, 3}, {7, 0, 0}, {0, 4, 0}, {0, 0, MIN},
            {0, 0, MAX}, {MAX, 0, 1}, {0, MAX, 1}, {MIN, 0, MIN}, {MAX, MAX, MAX}};
        for (int[] o : outside) due("outside", x.copy(0, o[0], 1, o[1], o[2]), -12);
        fill(x, 2, 1, 5);
        due("of unlike sorts", x.copy(0, 0, 2, 0, 1), -13);
        due("of unlike sorts ahead of outside", x.copy(2, -1, 0, 9, -1), -13);
        due("missing ahead of unlike", x.copy(2, 0, 3, 0, 1), -11);
        due("missing from", x.copy(3, -1, 0, 0, 1), -11);
        due("both missing", x.copy(3, 0, 3, 0, 0), -11);
        int[][] bad = {{4, 0}, {0, 4}, {-1, 0}, {0, -1}, {3, 4}, {4, 3}, {MIN, MAX}};
        for (int[] b : bad) due("bad", x.copy(b[0], 0, b[1], 0, 1), -2);
    }

    private static void pairs() {
        promise = 34;
        ThreesAtTable x = table(6);
        fill(x, 0, 1, 9, 0, 1, 1, 0, 6, 1, 5, 2, 2, 1, 0, 0);
        due("from item 1 on", x.pairs(0, 1, 1, 4), 3);
        due("the last one", x.told(0, 1), 0);
        due("not looked at", x.told(2, 5), 2);
        fill(x, 3, 2, 3, 5, 1, 4, 2, 0);
        due("an item each", x.pairs(3, 2, 0, 2), 2);
        due("3 and 5", x.told(3, 5) * 10 + x.told(2, 4), 10);
        due("two of them", x.pairs(0, 1, 1, 2), 1);
        due("it became so", x.told(0, 1), 1);
        x.sit(6);
        due("runs out", x.pairs(0, 1, 1, 5), -12);
        due("what stood ahead", x.told(2, 5), 2);
        x.sit(6);
        due("not whole", x.pairs(0, 1, 2, 4), -12);
        due("none of them", x.pairs(0, 1, 0, 0), 0);
        due("none of them, anywhere", x.pairs(0, 1, MIN, 0), 0);
        for (int from : new int[] {-1, 11, 13, MIN, MAX, MAX - 1}) due("outside " + from, x.pairs(0, 1, from, 1), -12);
        due("another sort", x.pairs(0, 0, 1, 1), -13);
        due("another sort, none asked", x.pairs(0, 2, -5, 0), -13);
        due("missing", x.pairs(1, 2, 0, 1), -11);
        due("missing, none asked", x.pairs(1, 0, 0, 0), -11);
        int[][] bad = {{4, 0, 0, 1}, {-1, 0, 0, 1}, {1, 3, 0, 1}, {1, -1, 0, 1}, {1, 0, 0, 14}, {1, 0, 0, -1}, {MIN, MAX, MIN, MAX}};
        for (int[] b : bad) due("bad", x.pairs(b[0], b[1], b[2], b[3]), -2);
        x.sheet(2, 0, 40);
        due("thirteen", x.pairs(2, 0, 1, 13), 0);
        due("thirteen, one too far", x.pairs(2, 0, 2, 13), -12);
    }

    private static void taken() {
        promise = 35;
        int[] under = {0, 1, 2, 10, 20, 20};
        for (int kind = 0; kind < 6; kind++) {
            ThreesAtTable x = new ThreesAtTable();
            x.town(kind, 3 + kind);
            for (int k = 0; k < 6; k++) {
                boolean is = k == kind || k == 0 || kind == 3 && k == 1 || kind > 3 && k == 2;
                due("a " + kind + " taken for a " + k, x.taken(0, k), is ? 3 + kind : -13);
            }
        }
        ThreesAtTable x = new ThreesAtTable();
        x.town(0, 0);
        for (int town : new int[] {-1, 1, 5, MIN, MAX}) {
            due("no such town", x.taken(town, 0), -11);
            due("bad ahead of no such town", x.taken(town, 6), -2);
        }
        for (int bad : new int[] {-1, 6, MIN, MAX}) due("bad " + bad, x.taken(0, bad), -2);
    }
}
