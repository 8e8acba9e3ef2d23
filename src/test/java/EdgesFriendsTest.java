/** Promises 17 to 20: each sentence that names an edge, and each refused call. */
public final class EdgesFriendsTest {
    private static final int MIN = Checks.MIN, MAX = Checks.MAX;

    public static void main(String[] args) {
        all();
        halved();
        fours();
        common();
        Checks.end();
    }

    private static void due(String call, long got, long want) {
        Checks.due(call, got, want);
    }

    private static ThreesAtTable nobodyLooked(int n) {
        return Checks.table(n, "", Checks.pairsOf(n));
    }

    // ---- 17: all

    private static void all(String of, ThreesAtTable x, int sort, int many, int bits) {
        due(of + ", how many", x.all(sort, 0), many);
        due(of + ", who", x.all(sort, 1), bits);
    }

    private static void all() {
        Checks.sentence("ALL FRIENDS, ALL STRANGERS: from one alone to all seven", () -> {
            for (int n = 1; n <= 7; n++) {
                all("friends of " + n, Checks.friends(n), 1, n, (1 << n) - 1);
                all("friends of " + n + ", strangers", Checks.friends(n), 0, 1, 1);
                all("strangers of " + n, Checks.strangers(n), 0, n, (1 << n) - 1);
                all("strangers of " + n + ", friends", Checks.strangers(n), 1, 1, 1);
            }
        });
        Checks.sentence("ALL FRIENDS: each two of whom are 1; ALL STRANGERS: 0: a pair not LOOKED at is neither", () -> {
            for (int n = 1; n <= 7; n++) {
                all("nobody has looked, friends", nobodyLooked(n), 1, 1, 1);
                all("nobody has looked, strangers", nobodyLooked(n), 0, 1, 1);
            }
            all("friends but one pair", Checks.table(4, "02 12 03 13 23", "01"), 1, 3, 13);
            all("strangers but one pair", Checks.table(4, "", "01"), 0, 3, 13);
        });
        Checks.sentence("ALL FRIENDS, ALL STRANGERS: the least as bits", () -> {
            all("two pairs of friends", Checks.table(7, "56 01", ""), 1, 2, 3);
            all("the last pair", Checks.table(7, "56", ""), 1, 2, 96);
            all("123 ahead of 056", Checks.table(7, "05 06 56 12 13 23", ""), 1, 3, 14);
            all("456 alone", Checks.table(7, "45 46 56", "01"), 1, 3, 112);
            all("most ahead of the least", Checks.table(7, "01 45 46 56", ""), 1, 3, 112);
            all("strangers: halves of 7", Checks.table(7, "01 12 03 23 14 34 05 25 45 16 36 56", ""), 0, 4, 85);
            all("strangers: halves of 6", Checks.table(6, "01 12 03 23 14 34 05 25 45", ""), 0, 3, 21);
        });
        Checks.sentence("ALL FRIENDS, ALL STRANGERS: counts is not asked", () -> {
            all("friends", Checks.ruled(Checks.friends(7), "counts 0;costs 0;joy 0;"), 1, 7, 127);
            all("strangers", Checks.ruled(Checks.strangers(7), "counts 0;costs 0;joy 0;"), 0, 7, 127);
        });
        Checks.sentence("17: BAD: sort, what; nothing changes", () -> {
            Checks.refused("sort", Checks.BAD, x -> x.all(2, 0), x -> x.all(-1, 0), x -> x.all(2, 1), x -> x.all(MIN, 0), x -> x.all(MAX, 1));
            Checks.refused("what", Checks.BAD, x -> x.all(0, 2), x -> x.all(0, -1), x -> x.all(1, 2), x -> x.all(1, MIN), x -> x.all(0, MAX));
        });
    }

    // ---- 18: halved

    private static void halved(String of, ThreesAtTable x, int pairs, int part) {
        due(of + ", pairs", x.halved(0), pairs);
        due(of + ", part", x.halved(1), part);
    }

    private static void halved() {
        Checks.sentence("HALVED: one part may be empty", () -> {
            halved("one guest", Checks.strangers(1), 0, 1);
        });
        Checks.sentence("HALVED: all strangers, all friends", () -> {
            int[] fewest = {0, 0, 1, 2, 4, 6, 9};
            int[] parts = {1, 1, 1, 3, 3, 7, 7};
            for (int n = 1; n <= 7; n++) {
                halved("strangers of " + n, Checks.strangers(n), 0, 1);
                halved("friends of " + n, Checks.friends(n), fewest[n - 1], parts[n - 1]);
                halved("nobody has looked, " + n, nobodyLooked(n), 0, 1);
            }
        });
        Checks.sentence("HALVED: pairs that are 1, no others", () -> {
            halved("a pair not looked at", Checks.table(3, "01 12", "02"), 0, 5);
            halved("three friends", Checks.friends(3), 1, 1);
        });
        Checks.sentence("HALVED: of like ones that in which the part of GUEST 0 is the least as bits", () -> {
            halved("five in a ring", Checks.table(5, "01 12 23 34 04", ""), 1, 5);
            halved("two strangers alone", Checks.table(4, "01", ""), 0, 1);
            halved("one pair without 0", Checks.table(4, "23", ""), 0, 5);
            halved("one pair of the last", Checks.table(7, "56", ""), 0, 33);
            halved("halves of 6", Checks.table(6, "01 12 03 23 14 34 05 25 45", ""), 0, 21);
            halved("0 knows all others", Checks.table(7, "01 02 03 04 05 06", ""), 0, 1);
            halved("6 knows all others", Checks.table(7, "06 16 26 36 46 56", ""), 0, 63);
        });
        Checks.sentence("18: BAD; nothing changes", () ->
            Checks.refused("halved", Checks.BAD, x -> x.halved(-1), x -> x.halved(2), x -> x.halved(MIN), x -> x.halved(MAX)));
    }

    // ---- 19: fours

    private static void fours() {
        Checks.sentence("FOURS: of 1 to 7 GUESTS", () -> {
            int[] fours = {0, 0, 0, 3, 15, 45, 105};
            for (int n = 1; n <= 7; n++) {
                due("friends of " + n, Checks.friends(n).fours(), fours[n - 1]);
                due("strangers of " + n, Checks.strangers(n).fours(), 0);
                due("nobody has looked, " + n, nobodyLooked(n).fours(), 0);
            }
        });
        Checks.sentence("FOURS: each of whom knows the next one, round; each ring once", () -> {
            due("01 12 23 03", Checks.table(4, "01 12 23 03", "").fours(), 1);
            due("02 12 13 03", Checks.table(4, "02 12 13 03", "").fours(), 1);
            due("01 13 23 02", Checks.table(4, "01 13 23 02", "").fours(), 1);
            due("the last four", Checks.table(7, "34 45 56 36", "").fours(), 1);
            due("one is missing", Checks.table(4, "01 12 23", "").fours(), 0);
            due("one is not looked at", Checks.table(4, "01 12 23", "03").fours(), 0);
            due("a ring of five", Checks.table(5, "01 12 23 34 04", "").fours(), 0);
            due("three friends, and one more", Checks.table(4, "01 02 12 23", "").fours(), 0);
        });
        Checks.sentence("FOURS: who knows whom across does not matter", () -> {
            due("one across", Checks.table(4, "01 12 23 03 02", "").fours(), 1);
            due("across not looked at", Checks.table(4, "01 12 23 03", "02 13").fours(), 1);
            due("both across: three rings", Checks.friends(4).fours(), 3);
            due("halves of 6", Checks.table(6, "01 12 03 23 14 34 05 25 45", "").fours(), 9);
            due("two and five", Checks.table(7, "02 03 04 05 06 12 13 14 15 16", "").fours(), 10);
        });
    }

    // ---- 20: common

    private static void common(String of, ThreesAtTable x, int is, int all) {
        due(of, x.common(0), is);
        due(of + ", who knows all", x.common(1), all);
    }

    private static void common() {
        Checks.sentence("COMMON: one GUEST alone has no two, and knows all others", () -> common("one guest", Checks.strangers(1), 1, 0));
        Checks.sentence("COMMON: two have no other one", () -> {
            common("two strangers", Checks.strangers(2), 0, Checks.NONE);
            common("two friends", Checks.friends(2), 0, 0);
            common("nobody has looked", nobodyLooked(2), 0, Checks.NONE);
        });
        Checks.sentence("COMMON: each two both know just one other one: three, five, seven", () -> {
            common("three friends", Checks.friends(3), 1, 0);
            common("five", Checks.table(5, "04 14 24 34 01 23", ""), 1, 4);
            common("seven", Checks.table(7, "01 02 03 04 05 06 12 34 56", ""), 1, 0);
            common("seven about 3", Checks.table(7, "03 13 23 34 35 36 01 24 56", ""), 1, 3);
        });
        Checks.sentence("COMMON: none, or two, of one pair alone", () -> {
            common("one pair has none", Checks.table(5, "04 14 24 34 01", ""), 0, 4);
            common("a pair not looked at", Checks.table(5, "04 14 24 34 01", "23"), 0, 4);
            common("one pair has two", Checks.table(5, "04 14 24 34 01 23 12", ""), 0, 4);
            common("four friends: two each", Checks.friends(4), 0, 0);
            common("a ring of four: two or none", Checks.table(4, "01 12 23 03", ""), 0, Checks.NONE);
            common("the last pair alone has none", Checks.table(6, "01 02 12", ""), 0, Checks.NONE);
        });
        Checks.sentence("COMMON: the least GUEST who knows all others; NONE", () -> {
            for (int n = 2; n <= 7; n++) {
                due("friends of " + n, Checks.friends(n).common(1), 0);
                due("strangers of " + n, Checks.strangers(n).common(1), Checks.NONE);
                due("nobody has looked, " + n, nobodyLooked(n).common(1), Checks.NONE);
            }
            due("the last", Checks.table(7, "06 16 26 36 46 56", "").common(1), 6);
            due("all but one", Checks.table(7, "06 16 26 36 46", "").common(1), Checks.NONE);
            due("all but one not looked at", Checks.table(7, "06 16 26 36 46", "56").common(1), Checks.NONE);
            due("two do", Checks.table(4, "03 13 23 01 12", "").common(1), 1);
        });
        Checks.sentence("20: BAD; nothing changes", () ->
            Checks.refused("common", Checks.BAD, x -> x.common(-1), x -> x.common(2), x -> x.common(MIN), x -> x.common(MAX)));
        Checks.sentence("20: BAD, of one GUEST too", () -> due("common", Checks.strangers(1).common(2), Checks.BAD));
    }
}
