/** Promises 11 to 16: each sentence that names an edge, and each refused call. */
public final class EdgesThreesTest {
    private static final int MIN = Checks.MIN, MAX = Checks.MAX;
    private static final int[] THREES = {0, 0, 1, 4, 10, 20, 35};

    public static void main(String[] args) {
        threes();
        firstThree();
        byDegrees();
        guest();
        most();
        home();
        change();
        changeOfLikeOnes();
        noneLeft();
        noneLeftOfLikeOnes();
        Checks.end();
    }

    private static void due(String call, long got, long want) {
        Checks.due(call, got, want);
    }

    private static ThreesAtTable counting(ThreesAtTable x, String counts) {
        return Checks.ruled(x, "counts " + counts + ";costs 1;joy 5-know;");
    }

    private static ThreesAtTable costing(ThreesAtTable x, String counts, String costs) {
        return Checks.ruled(x, "counts " + counts + ";costs " + costs + ";joy 5-know;");
    }

    // ---- 11: threes

    private static void threes() {
        Checks.sentence("11: of 1 to 7 GUESTS, all strangers, all friends", () -> {
            for (int n = 1; n <= 7; n++) {
                ThreesAtTable x = Checks.strangers(n);
                due("friends", x.threes(0), 0);
                due("strangers", x.threes(1), THREES[n - 1]);
                due("all", x.threes(2), THREES[n - 1]);
                due("first", x.threes(3), n < 3 ? Checks.NONE : 12);
                due("by degrees", x.threes(4), THREES[n - 1]);
                x = Checks.friends(n);
                due("friends", x.threes(0), THREES[n - 1]);
                due("strangers", x.threes(1), 0);
                due("all", x.threes(2), THREES[n - 1]);
                due("first", x.threes(3), n < 3 ? Checks.NONE : 12);
                due("by degrees", x.threes(4), THREES[n - 1]);
            }
        });
        Checks.sentence("A THREE: all pairs of whom are 1, or all are 0: each of three pairs, each of 0, 1, 2", () -> {
            for (int way = 0; way < 27; way++) {
                ThreesAtTable x = Checks.strangers(3);
                x.meet(0, 1, way % 3);
                x.meet(0, 2, way / 3 % 3);
                x.meet(1, 2, way / 9);
                due("friends of " + way, x.threes(0), way == 13 ? 1 : 0);
                due("strangers of " + way, x.threes(1), way == 0 ? 1 : 0);
                due("all of " + way, x.threes(2), way == 0 || way == 13 ? 1 : 0);
                due("first of " + way, x.threes(3), way == 0 || way == 13 ? 12 : Checks.NONE);
            }
        });
        Checks.sentence("A THREE: if counts tells it: of friends, of strangers, of neither", () -> {
            String[] counts = {"know", "not know", "know=3", "know=0", "0", "1", "know=1 or know=2", "seen<3", "seen=3"};
            int[] friends = {1, 0, 1, 0, 0, 1, 0, 0, 1};
            int[] strangers = {0, 1, 0, 1, 0, 1, 0, 0, 1};
            for (int at = 0; at < counts.length; at++) {
                ThreesAtTable x = counting(Checks.table(6, "01 02 12", "03 13 23 04 14 24 05 15 25"), counts[at]);
                due("friends, " + counts[at], x.threes(0), friends[at]);
                due("strangers, " + counts[at], x.threes(1), strangers[at]);
                due("all, " + counts[at], x.threes(2), friends[at] + strangers[at]);
                int first = friends[at] == 1 ? 12 : strangers[at] == 1 ? 345 : Checks.NONE;
                due("first, " + counts[at], x.threes(3), first);
            }
        });
        Checks.sentence("11: BAD; nothing changes", () ->
            Checks.refused("threes", Checks.BAD, x -> x.threes(-1), x -> x.threes(5), x -> x.threes(MIN), x -> x.threes(MAX)));
    }

    private static void firstThree() {
        Checks.sentence("11: the first of all: the first there could be and the last", () -> {
            due("012", counting(Checks.strangers(7), "third=2").threes(3), 12);
            due("456", counting(Checks.strangers(7), "one=4").threes(3), 456);
            due("016", counting(Checks.friends(7), "other=1 and third=6").threes(3), 16);
            due("056", counting(Checks.friends(7), "one=0 and other=5").threes(3), 56);
        });
        Checks.sentence("11: by i, then j, then k", () -> {
            due("i ahead of j", counting(Checks.strangers(7), "one=0 and other=5 or one=1 and other=2").threes(3), 56);
            due("j ahead of k", counting(Checks.strangers(7), "one=0 and other=1 and third=6 or one=0 and other=2 and third=3").threes(3), 16);
            due("k", counting(Checks.strangers(7), "one=2 and other=3 and third=5 or one=2 and other=3 and third=6").threes(3), 235);
        });
        Checks.sentence("11: the first of both sorts", () -> {
            due("friends first", Checks.table(6, "01 02 12", "03 13 04 14 05 15 23 24 25").threes(3), 12);
            due("strangers first", Checks.table(6, "34 35 45", "03 13 04 14 05 15 23 24 25").threes(3), 12);
            due("strangers alone", Checks.table(6, "01", "02 12 03 13 04 14 05 15 23 24 25").threes(3), 345);
        });
        Checks.sentence("11: NONE", () -> {
            due("one guest", Checks.strangers(1).threes(3), Checks.NONE);
            due("two friends", Checks.friends(2).threes(3), Checks.NONE);
            due("five in a ring", Checks.table(5, "01 12 23 34 04", "").threes(3), Checks.NONE);
            due("none counts", counting(Checks.friends(7), "0").threes(3), Checks.NONE);
            due("nobody has looked", Checks.table(7, "", Checks.pairsOf(7)).threes(3), Checks.NONE);
        });
    }

    private static void byDegrees() {
        Checks.sentence("BY DEGREES: counted by nothing but how many each GUEST knows: counts is not asked", () -> {
            due("strangers", counting(Checks.strangers(7), "0").threes(4), 35);
            due("friends", counting(Checks.friends(7), "0").threes(4), 35);
            due("five in a ring", Checks.table(5, "01 12 23 34 04", "").threes(4), 0);
        });
        Checks.sentence("BY DEGREES: pairs not LOOKED at: as 0", () -> {
            due("nobody has looked", Checks.table(7, "", Checks.pairsOf(7)).threes(4), 35);
            due("three", Checks.table(3, "", "01 02 12").threes(4), 1);
            due("three, one friend", Checks.table(3, "01", "02").threes(4), 0);
            due("two of three", Checks.table(3, "01 02", "12").threes(4), 0);
            due("four", Checks.table(4, "01 02 12", "03 13 23").threes(4), 1);
        });
        Checks.sentence("BY DEGREES: all threes less half of the sum", () -> {
            // Of six, 0 knows all: 20 - (0 + 5 * 1 * 4) / 2; a star of two: 20 - (2 * 3 + 2 * 4) / 2.
            due("one knows all", Checks.table(6, "01 02 03 04 05", "").threes(4), 10);
            due("one knows two", Checks.table(6, "01 02", "").threes(4), 13);
            due("one pair", Checks.table(6, "45", "").threes(4), 16);
        });
    }

    // ---- 12: guest

    private static void guest() {
        Checks.sentence("12: how many one knows: none to six; those not LOOKED at are none", () -> {
            for (int know = 0; know <= 6; know++) {
                ThreesAtTable x = Checks.strangers(7);
                for (int other = 0; other < know; other++) x.meet(6, other, 1);
                due("knows", x.guest(6, 0), know);
                if (know == 0) continue;
                x.meet(0, 6, 2);
                due("knows one less", x.guest(6, 0), know - 1);
                due("so does the other one", x.guest(0, 0), 0);
            }
        });
        Checks.sentence("12: in how many THREES one is: none to fifteen", () -> {
            int[] in = {0, 0, 1, 3, 6, 10, 15};
            for (int n = 1; n <= 7; n++) {
                for (int guest = 0; guest < n; guest++) {
                    due("strangers", Checks.strangers(n).guest(guest, 1), in[n - 1]);
                    due("friends", Checks.friends(n).guest(guest, 1), in[n - 1]);
                }
            }
            // The THREES are 012, and 345, 346, 356.
            ThreesAtTable x = counting(Checks.table(7, "01 02 12", ""), "know=3 or one=3");
            int[] due = {1, 1, 1, 3, 2, 2, 2};
            for (int guest = 0; guest < 7; guest++) due("of " + guest, x.guest(guest, 1), due[guest]);
        });
        Checks.sentence("12: joy", () -> {
            due("0", Checks.friends(6).guest(5, 2), 0);
            due("5", Checks.strangers(6).guest(5, 2), 5);
            due("0 at least", Checks.friends(7).guest(0, 2), 0);
        });
        Checks.sentence("12: the first GUEST of n and the last, and the next ones", () -> {
            for (int n = 1; n <= 7; n++) {
                for (int what = 0; what <= 2; what++) {
                    due("first", Checks.strangers(n).guest(0, what), what == 0 ? 0 : what == 1 ? (n - 1) * (n - 2) / 2 : 5);
                    due("last", Checks.strangers(n).guest(n - 1, what), what == 0 ? 0 : what == 1 ? (n - 1) * (n - 2) / 2 : 5);
                    due("next", Checks.strangers(n).guest(n, what), Checks.BAD);
                }
            }
        });
        Checks.sentence("12: BAD; nothing changes", () -> {
            Checks.refused("no guest", Checks.BAD, x -> x.guest(6, 0), x -> x.guest(-1, 0), x -> x.guest(6, 1), x -> x.guest(-1, 2),
                x -> x.guest(MIN, 0), x -> x.guest(MAX, 1));
            Checks.refused("no such thing", Checks.BAD, x -> x.guest(0, 3), x -> x.guest(0, -1), x -> x.guest(5, MIN), x -> x.guest(5, MAX));
        });
    }

    // ---- 13: most

    private static void most() {
        Checks.sentence("13: of like ones the first", () -> {
            for (int n = 3; n <= 7; n++) {
                due("strangers", Checks.strangers(n).most(), 0);
                due("friends", Checks.friends(n).most(), 0);
            }
            due("456 alone", counting(Checks.strangers(7), "one=4").most(), 4);
            due("126 and 345", counting(Checks.strangers(7), "one=1 and other=2 and third=6 or one=3 and third=5").most(), 1);
        });
        Checks.sentence("13: who is in most, the last one too", () -> {
            due("the last", counting(Checks.strangers(7), "third=6").most(), 6);
            due("the first", counting(Checks.strangers(7), "one=0").most(), 0);
            due("one in the middle", counting(Checks.strangers(7), "other=3").most(), 3);
            due("of both sorts together", counting(Checks.table(7, "12 13 23", "03"), "know=3 or one=2 and other=4 and third=5").most(), 2);
        });
        Checks.sentence("13: NONE: there are none", () -> {
            due("one guest", Checks.strangers(1).most(), Checks.NONE);
            due("two guests", Checks.friends(2).most(), Checks.NONE);
            due("five in a ring", Checks.table(5, "01 12 23 34 04", "").most(), Checks.NONE);
            due("none counts", counting(Checks.strangers(7), "0").most(), Checks.NONE);
            due("nobody has looked", Checks.table(7, "", Checks.pairsOf(7)).most(), Checks.NONE);
        });
    }

    // ---- 14: home

    private static void home(String of, ThreesAtTable x, int many, int bits, int joy) {
        due(of + ", how many", x.home(0), many);
        due(of + ", who", x.home(1), bits);
        due(of + ", joy", x.home(2), joy);
    }

    private static void home() {
        Checks.sentence("HOME: nobody, if there is no THREE", () -> {
            home("one guest", Checks.strangers(1), 0, 0, 5);
            home("two strangers", Checks.strangers(2), 0, 0, 10);
            home("two friends", Checks.friends(2), 0, 0, 8);
            home("five in a ring", Checks.table(5, "01 12 23 34 04", ""), 0, 0, 15);
            home("none counts", counting(Checks.strangers(7), "0"), 0, 0, 35);
        });
        Checks.sentence("HOME: all but two, if all are of one sort; the least as bits", () -> {
            for (int n = 3; n <= 7; n++) {
                home("strangers of " + n, Checks.strangers(n), n - 2, (1 << n - 2) - 1, 10);
                home("friends of " + n, Checks.friends(n), n - 2, (1 << n - 2) - 1, 2 * Math.max(0, 6 - n));
            }
        });
        Checks.sentence("HOME: the fewest", () -> {
            home("one in all", counting(Checks.strangers(7), "third=6"), 1, 64, 30);
            home("one in all in the middle", counting(Checks.strangers(7), "other=3"), 1, 8, 30);
            home("two threes apart", counting(Checks.strangers(7), "third=2 or one=4"), 2, 1 + 16, 25);
            home("two that share 4", counting(Checks.strangers(7), "one=4 or other=3 and third=4 and one=2"), 1, 16, 30);
        });
        Checks.sentence("HOME: of like ones the least as bits", () -> {
            home("012", Checks.table(3, "01 02 12", ""), 1, 1, 6);
            home("456", counting(Checks.strangers(7), "one=4"), 1, 16, 30);
            home("two threes", Checks.table(6, "01 02 12 34 35 45", ""), 2, 9, 12);
        });
        Checks.sentence("HOME: THREE of now, and all texts told as all is now: many, know with those who go", () -> {
            home("many stays", counting(Checks.strangers(5), "many=5"), 3, 7, 10);
            home("know stays", Checks.ruled(Checks.friends(4), "counts 1;costs 1;joy 10*know+many;"), 2, 3, 68);
            home("one stays", Checks.ruled(Checks.strangers(4), "counts 1;costs 1;joy 10*one;"), 2, 3, 50);
        });
        Checks.sentence("14: JOY of the others: each one's bounded", () -> {
            home("99 at most", Checks.ruled(Checks.strangers(7), "counts 1;costs 1;joy 100+one;"), 5, 31, 198);
            home("0 at least", Checks.ruled(Checks.strangers(7), "counts 0;costs 1;joy one-3;"), 0, 0, 6);
            home("most joy of all", Checks.ruled(Checks.strangers(7), "counts 0;costs 1;joy 9999;"), 0, 0, 693);
        });
        Checks.sentence("14: nobody goes", () -> {
            ThreesAtTable x = Checks.strangers(7);
            x.home(0);
            x.home(1);
            x.home(2);
            due("guests", x.count(0), 7);
            due("threes", x.threes(2), 35);
        });
        Checks.sentence("14: BAD; nothing changes", () ->
            Checks.refused("home", Checks.BAD, x -> x.home(-1), x -> x.home(3), x -> x.home(MIN), x -> x.home(MAX)));
    }

    // ---- 15: change

    private static void change(String of, ThreesAtTable x, int pair, int threes) {
        due(of + ", pair", x.change(0), pair);
        due(of + ", threes then", x.change(1), threes);
    }

    private static void change() {
        Checks.sentence("CHANGE: NONE, if there is no THREE, or no pair", () -> {
            change("one guest", Checks.strangers(1), Checks.NONE, Checks.NONE);
            change("two guests", Checks.strangers(2), Checks.NONE, Checks.NONE);
            change("two friends", Checks.friends(2), Checks.NONE, Checks.NONE);
            change("five in a ring", Checks.table(5, "01 12 23 34 04", ""), Checks.NONE, Checks.NONE);
            change("none counts", counting(Checks.strangers(7), "0"), Checks.NONE, Checks.NONE);
            change("nobody has looked", Checks.table(7, "", Checks.pairsOf(7)), Checks.NONE, Checks.NONE);
        });
        Checks.sentence("CHANGE: if fewer than now, not as many", () -> {
            // Six can't have fewer than two THREES, and halves of six have two.
            change("halves of six", Checks.table(6, "01 03 05 12 23 25 14 34 45", ""), Checks.NONE, Checks.NONE);
        });
        Checks.sentence("CHANGE: 0 becomes 1 and 1 becomes 0", () -> {
            change("strangers", Checks.strangers(3), 0, 0);
            change("friends", Checks.friends(3), 0, 0);
            // The change of 01 would make a THREE of friends of 012, so that of 03 is the first that is better.
            change("as many by another", Checks.table(4, "02 12", "23"), 3, 0);
        });
        Checks.sentence("CHANGE: a pair that is LOOKED at", () -> {
            change("the last pair alone", Checks.table(7, "46 56 45", "01 02 12 03 13 23 04 14 24 34 05 15 25 35 06 16 26 36"), 14, 0);
            change("one not looked at", Checks.table(4, "", "01"), 5, 0);
        });
        Checks.sentence("CHANGE: all pairs as they are then, all others as now", () -> {
            for (int n = 3; n <= 7; n++) {
                change("strangers of " + n, Checks.strangers(n), 0, THREES[n - 1] - (n - 2));
                change("friends of " + n, Checks.friends(n), 0, THREES[n - 1] - (n - 2));
            }
        });
        Checks.sentence("15: nothing is changed by asking", () -> {
            ThreesAtTable x = Checks.strangers(5);
            x.change(0);
            x.change(1);
            due("pairs", x.count(1), 0);
            due("threes", x.threes(2), 10);
        });
        Checks.sentence("15: BAD; nothing changes", () ->
            Checks.refused("change", Checks.BAD, x -> x.change(-1), x -> x.change(2), x -> x.change(MIN), x -> x.change(MAX)));
        Checks.sentence("15: BAD ahead of NONE", () -> {
            due("one guest", Checks.strangers(1).change(2), Checks.BAD);
            due("one guest, below", Checks.strangers(1).change(-1), Checks.BAD);
        });
    }

    private static void changeOfLikeOnes() {
        Checks.sentence("CHANGE: the fewest THREES ahead of the least costs", () ->
            change("23 is in two", costing(Checks.strangers(4), "third=3 and other=2", "99*(one=2)"), 5, 0));
        Checks.sentence("CHANGE: of like ones that of least costs", () -> {
            change("the last", costing(Checks.strangers(3), "1", "5-one-other"), 2, 0);
            change("the one in the middle", costing(Checks.strangers(3), "1", "not (one=0 and other=2)"), 1, 0);
            change("costs differ by one", costing(Checks.strangers(3), "1", "98+(one=0)"), 2, 0);
        });
        Checks.sentence("CHANGE: of like ones of the least number", () -> {
            change("all cost 0", costing(Checks.strangers(7), "1", "0"), 0, 30);
            change("all cost 99", costing(Checks.strangers(7), "1", "99"), 0, 30);
            change("the costs are bounded, and like then: 99", costing(Checks.strangers(3), "1", "200-one-other"), 0, 0);
            change("the costs are bounded, and like then: 0", costing(Checks.strangers(3), "1", "-one-other"), 0, 0);
            change("two cost the least", costing(Checks.strangers(3), "1", "7-other"), 1, 0);
        });
        Checks.sentence("CHANGE: costs are told as all is now", () -> {
            change("friends", costing(Checks.friends(3), "1", "know*(5-other)"), 1, 0);
            change("strangers", costing(Checks.strangers(3), "1", "know*(5-other)"), 0, 0);
            String apart = "03 13 23 04 14 24 05 15 25";
            change("friends cost more", costing(Checks.table(6, "01 02 12", apart), "1", "5+know"), 9, 1);
            change("friends cost less", costing(Checks.table(6, "34 35 45", apart), "1", "5-know"), 9, 1);
            change("seen", costing(Checks.strangers(3), "1", "9-seen*one"), 2, 0);
        });
    }

    // ---- 16: noneLeft

    private static void none(String of, ThreesAtTable x, int many, int bits, int costs) {
        due(of + ", how many", x.noneLeft(0), many);
        due(of + ", pairs", x.noneLeft(1), bits);
        due(of + ", costs", x.noneLeft(2), costs);
    }

    private static void noneLeft() {
        Checks.sentence("NONE LEFT: no pair, if there is no THREE", () -> {
            none("one guest", Checks.strangers(1), 0, 0, 0);
            none("two guests", Checks.strangers(2), 0, 0, 0);
            none("five in a ring", Checks.table(5, "01 12 23 34 04", ""), 0, 0, 0);
            none("none counts", counting(Checks.friends(7), "0"), 0, 0, 0);
            none("nobody has looked", Checks.table(7, "", Checks.pairsOf(7)), 0, 0, 0);
        });
        Checks.sentence("NONE LEFT: one, two, three", () -> {
            none("one", counting(Checks.strangers(7), "one=4"), 1, 1 << 14, 1);
            none("two", counting(Checks.strangers(7), "one=4 or third=2"), 2, 1 | 1 << 14, 2);
            none("three", counting(Checks.strangers(7), "one=4 or third=2 or one=1 and other=3 and third=5"), 3, 1 | 1 << 4 | 1 << 14, 3);
            none("two of four strangers", Checks.strangers(4), 2, 12, 2);
        });
        Checks.sentence("NONE LEFT: 3 at most: NONE, if it takes four", () -> {
            String four = "one=4 or third=2 or one=1 and other=3 and third=5 or one=0 and other=3 and third=6";
            none("four threes apart", counting(Checks.strangers(7), four), Checks.NONE, Checks.NONE, Checks.NONE);
            none("six strangers", Checks.strangers(6), Checks.NONE, Checks.NONE, Checks.NONE);
            none("seven friends", Checks.friends(7), Checks.NONE, Checks.NONE, Checks.NONE);
        });
        Checks.sentence("NONE LEFT: the fewest pairs ahead of the least costs", () ->
            none("23 is in two", costing(Checks.strangers(4), "third=3 and other=2", "99*(one=2)"), 1, 32, 99));
        Checks.sentence("NONE LEFT: no THREE then, not one that comes by the change either", () -> {
            // The one THREE is 012, and the change of 01 makes friends of 013.
            none("by another pair", Checks.table(4, "13 03", "23"), 1, 2, 1);
            // Here each of its three pairs makes friends of others, so another pair of those has to go with it.
            none("by two", Checks.table(6, "03 13 04 24 15 25", "23 34 35 45"), 2, 9, 2);
        });
        Checks.sentence("NONE LEFT: pairs that are LOOKED at, the highest too", () -> {
            ThreesAtTable x = costing(Checks.strangers(7), "one=4", "not (one=5)");
            none("56", x, 1, 1 << 20, 0);
        });
        Checks.sentence("16: nothing is changed by asking", () -> {
            ThreesAtTable x = Checks.strangers(4);
            for (int what = 0; what < 3; what++) x.noneLeft(what);
            due("pairs", x.count(1), 0);
            due("threes", x.threes(2), 4);
        });
        Checks.sentence("16: BAD; nothing changes", () ->
            Checks.refused("noneLeft", Checks.BAD, x -> x.noneLeft(-1), x -> x.noneLeft(3), x -> x.noneLeft(MIN), x -> x.noneLeft(MAX)));
        Checks.sentence("16: BAD ahead of NONE", () -> {
            due("seven friends", Checks.friends(7).noneLeft(3), Checks.BAD);
            due("seven friends, below", Checks.friends(7).noneLeft(-1), Checks.BAD);
        });
    }

    private static void noneLeftOfLikeOnes() {
        Checks.sentence("NONE LEFT: of like ones those of least costs together", () -> {
            // Of four strangers two that do not touch: 01 23, 02 13, 12 03.
            none("the second way", costing(Checks.strangers(4), "1", "3*(one=0 and other=1 or one=1 and other=2)+1"), 2, 18, 2);
            none("the third way", costing(Checks.strangers(4), "1", "50*(one=0)+50*(one=0 and other=1)"), 2, 12, 50);
            none("the first way", costing(Checks.strangers(4), "1", "other=2"), 2, 33, 0);
            none("two like ones of three", costing(Checks.strangers(4), "1", "50*(one=0 and other=1)+30*(other=2)"), 2, 12, 30);
        });
        Checks.sentence("NONE LEFT: of like ones the least as bits", () -> {
            none("all cost 1", Checks.strangers(4), 2, 12, 2);
            none("all cost 0", costing(Checks.strangers(4), "1", "0"), 2, 12, 0);
            none("two ways cost the like", costing(Checks.strangers(4), "1", "9*(one=1 and other=2)+1"), 2, 18, 2);
            none("the least of one three", costing(Checks.strangers(7), "one=4", "1"), 1, 1 << 14, 1);
        });
        Checks.sentence("NONE LEFT: costs are told as all is now, each one bounded", () -> {
            none("friends", costing(Checks.friends(4), "1", "know*40+20"), 2, 12, 120);
            none("strangers", costing(Checks.strangers(4), "1", "know*40+20"), 2, 12, 40);
            none("most of all", costing(Checks.strangers(7), "one=4 or third=2 or one=1 and other=3 and third=5", "9999"), 3, 1 | 1 << 4 | 1 << 14, 297);
            none("below 0", costing(Checks.strangers(4), "1", "-9999"), 2, 12, 0);
        });
    }
}
