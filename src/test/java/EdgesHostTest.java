/** Promises 31 to 35: each sentence that names an edge, and each refused call. */
public final class EdgesHostTest {
    private static final int MIN = Checks.MIN, MAX = Checks.MAX;
    // The 21 pairs of seven: a SHEET that holds some of them, each once, can be read by judge().
    private static final int[] PAIRS = {1, 2, 12, 3, 13, 23, 4, 14, 24, 34, 5, 15, 25, 35, 45, 6, 16, 26, 36, 46, 56};

    public static void main(String[] args) {
        sheet();
        sheetRefused();
        cell();
        cellBits();
        copy();
        copyWithin();
        copyRefused();
        pairs();
        pairsOfItems();
        pairsRefused();
        taken();
        full();
        empty();
        Checks.end();
    }

    private static void due(String call, long got, long want) {
        Checks.due(call, got, want);
    }

    /** The place of that pair in a SHEET of pairs that are all told once; NONE. */
    private static int place(ThreesAtTable x, int sheet, int pair) {
        x.sit(7);
        x.meet(pair / 10, pair % 10, 1);
        int place = x.judge(sheet, 0);
        x.sit(7);
        return place;
    }

    private static void holds(String of, ThreesAtTable x, int sheet, int... pairs) {
        for (int at = 0; at < pairs.length; at++) due(of + ", item " + at, place(x, sheet, pairs[at]), at);
        due(of + ", behind it", x.cell(sheet, pairs.length, 0), Checks.OUTSIDE);
    }

    /** A SHEET of so many items, the first of PAIRS; 21 at most of them are pairs. */
    private static ThreesAtTable row(ThreesAtTable x, int sheet, int sort, int size) {
        x.sheet(sheet, sort, size);
        for (int at = 0; at < size && at < PAIRS.length; at++) x.cell(sheet, at, PAIRS[at]);
        return x;
    }

    // ---- 31: sheet

    private static void sheet() {
        Checks.sentence("31: SHEETS 0 to 3, sorts 0 to 2, n 0 to 40: 1", () -> {
            for (int sheet = 0; sheet <= 3; sheet++) {
                for (int sort = 0; sort <= 2; sort++) {
                    for (int n : new int[] {0, 1, 2, 39, 40}) {
                        ThreesAtTable x = new ThreesAtTable();
                        due("sheet", x.sheet(sheet, sort, n), 1);
                        if (n > 0) due("the last item", x.cell(sheet, n - 1, 1), 1);
                        due("behind it", x.cell(sheet, n, 1), Checks.OUTSIDE);
                        due("of that sort", x.pairs(sheet, sort, 0, 0), 0);
                        due("not of another", x.pairs(sheet, (sort + 1) % 3, 0, 0), Checks.OTHER);
                        for (int other = 0; other <= 3; other++) {
                            if (other != sheet) due("missing still", x.cell(other, 0, 0), Checks.NOTHING);
                        }
                    }
                }
            }
        });
        Checks.sentence("31: all 0: a new row, and one that was a row", () -> {
            for (int sort = 0; sort <= 2; sort++) {
                ThreesAtTable x = new ThreesAtTable();
                x.sheet(0, sort, 13);
                due("all 0: none is a pair", x.judge(0, 0), 0);
                due("0 0 0 is none", x.pairs(0, sort, 0, 4), 0);
                row(x, 0, sort, 21);
                for (int now = 0; now <= 2; now++) {
                    row(x, 0, sort, 21);
                    x.sheet(0, now, 21);
                    due("all 0 again", x.judge(0, 0), 0);
                    x.cell(0, 0, 12);
                    due("the second too", x.judge(0, 0), 1);
                }
            }
        });
        Checks.sentence("31: all 0 behind a shorter row between, and behind a missing one", () -> {
            ThreesAtTable x = row(Checks.strangers(7), 0, 0, 21);
            x.sheet(0, 0, 1);
            x.sheet(0, 0, 21);
            for (int at = 0; at < 20; at++) {
                due("item " + at, x.judge(0, 0), at);
                x.cell(0, at, PAIRS[at]);
            }
            x.sheet(0, -1, 0);
            x.sheet(0, 0, 21);
            due("all 0 behind a missing one", x.judge(0, 0), 0);
        });
        Checks.sentence("31: missing: n does not matter", () -> {
            for (int n : new int[] {0, 1, -1, 40, 41, MIN, MAX}) {
                ThreesAtTable x = new ThreesAtTable();
                due("missing as at first", x.sheet(2, -1, n), 1);
                due("cell", x.cell(2, 0, 0), Checks.NOTHING);
                x.sheet(2, 1, 5);
                due("a row becomes missing", x.sheet(2, -1, n), 1);
                due("cell", x.cell(2, 0, 0), Checks.NOTHING);
                due("judge", x.judge(2, 0), Checks.NOTHING);
                due("a row again", x.sheet(2, 0, 3), 1);
                due("cell", x.cell(2, 2, 0), 1);
            }
        });
        Checks.sentence("31: one SHEET alone", () -> {
            ThreesAtTable x = Checks.strangers(7);
            for (int sheet = 0; sheet <= 3; sheet++) row(x, sheet, 1, 3 + sheet);
            x.sheet(1, -1, 0);
            x.sheet(2, 0, 40);
            holds("sheet 0", x, 0, 1, 2, 12);
            holds("sheet 3", x, 3, 1, 2, 12, 3, 13, 23);
        });
    }

    private static void sheetRefused() {
        Checks.sentence("31: BAD: no such SHEET; nothing changes", () ->
            Checks.refused("no such sheet", Checks.BAD, x -> x.sheet(4, 0, 1), x -> x.sheet(-1, 0, 1), x -> x.sheet(4, -1, 1),
                x -> x.sheet(MIN, 0, 1), x -> x.sheet(MAX, 2, 40)));
        Checks.sentence("31: BAD: no such sort; nothing changes", () ->
            Checks.refused("no such sort", Checks.BAD, x -> x.sheet(0, 3, 1), x -> x.sheet(0, -2, 1), x -> x.sheet(3, 3, 0),
                x -> x.sheet(0, MIN, 1), x -> x.sheet(0, MAX, 1)));
        Checks.sentence("31: BAD: n above 40; nothing changes", () ->
            Checks.refused("n above 40", Checks.BAD, x -> x.sheet(0, 0, 41), x -> x.sheet(1, 1, 41), x -> x.sheet(3, 2, 42), x -> x.sheet(2, 2, MAX)));
        Checks.sentence("31: -14: n below 0; nothing changes", () ->
            Checks.refused("n below 0", Checks.BELOW, x -> x.sheet(0, 0, -1), x -> x.sheet(1, 1, -1), x -> x.sheet(3, 2, -2), x -> x.sheet(2, 2, MIN)));
        Checks.sentence("31: BAD ahead of -14", () ->
            Checks.refused("n below 0 as well", Checks.BAD, x -> x.sheet(4, 0, -1), x -> x.sheet(-1, 0, -1), x -> x.sheet(0, 3, -1), x -> x.sheet(0, -2, -1)));
    }

    // ---- 32: cell

    private static void cell() {
        Checks.sentence("32: item i becomes v: the first and the last of rows of 1 to 21, of each sort", () -> {
            for (int sort = 0; sort <= 2; sort++) {
                for (int size : new int[] {1, 2, 20, 21}) {
                    ThreesAtTable x = row(Checks.strangers(7), 1, sort, size);
                    holds("row of " + size, x, 1, java.util.Arrays.copyOf(PAIRS, size));
                    due("last", x.cell(1, size - 1, 0), 1);
                    due("is none now", x.judge(1, 0), size - 1);
                    due("first", x.cell(1, 0, 0), 1);
                    due("is none now", x.judge(1, 0), 0);
                    due("first again", x.cell(1, 0, 65), 1);
                    due("is one", x.judge(1, 0), size == 1 ? Checks.NONE : size - 1);
                }
            }
        });
        Checks.sentence("32: the 40th of 40", () -> {
            for (int sort = 0; sort <= 2; sort++) {
                ThreesAtTable x = Checks.strangers(7);
                x.sheet(0, sort, 40);
                due("the last", x.cell(0, 39, 12), 1);
                x.sheet(1, sort, 1);
                due("copied", x.copy(0, 39, 1, 0, 1), 1);
                due("is what was put", x.judge(1, 0), Checks.NONE);
                due("behind it", x.cell(0, 40, 12), Checks.OUTSIDE);
            }
        });
        Checks.sentence("32: BAD: no such SHEET; nothing changes", () ->
            Checks.refused("no such sheet", Checks.BAD, x -> x.cell(4, 0, 1), x -> x.cell(-1, 0, 1), x -> x.cell(4, -1, 1), x -> x.cell(MIN, 0, 0), x -> x.cell(MAX, 0, 0)));
        Checks.sentence("32: -11: it is missing; ahead of -12; nothing changes", () ->
            Checks.refused("missing", Checks.NOTHING, x -> x.cell(3, 0, 1), x -> x.cell(3, -1, 1), x -> x.cell(3, 40, 1), x -> x.cell(3, MIN, 1)));
        Checks.sentence("32: -12: ahead of the first, behind the last; nothing changes", () ->
            Checks.refused("outside", Checks.OUTSIDE, x -> x.cell(0, -1, 1), x -> x.cell(0, 4, 1), x -> x.cell(1, 3, 1), x -> x.cell(2, 4, 1),
                x -> x.cell(0, 39, 1), x -> x.cell(0, MIN, 1), x -> x.cell(0, MAX, 1)));
        Checks.sentence("32: -12: all items of a row of none", () -> {
            for (int sort = 0; sort <= 2; sort++) {
                ThreesAtTable x = new ThreesAtTable();
                x.sheet(0, sort, 0);
                for (int at : new int[] {0, -1, 1, 40}) due("item " + at, x.cell(0, at, 1), Checks.OUTSIDE);
            }
        });
    }

    private static void cellBits() {
        int[] bytes = {12, 256 + 12, 512 + 12, -256 + 12, 65536 + 12, MIN + 12, MAX - 255 + 12};
        int[] shorts = {12, 65536 + 12, -65536 + 12, MIN + 12, 3 * 65536 + 12, MAX - 65535 + 12};
        int[] notShorts = {256 + 12, -256 + 12, 32768 + 12, 32767, 32768, -12, -32768};
        Checks.sentence("32: of bytes its lowest 8 bits", () -> {
            for (int v : bytes) due("12 of " + v, item(0, v), 1);
            for (int v : new int[] {127, 128, 255, 256, -1, -128, -129, 13, 11, 128 + 12, -12, MIN, MAX}) due("not of " + v, item(0, v), 0);
        });
        Checks.sentence("32: of shorts its lowest 16 bits", () -> {
            for (int v : shorts) due("12 of " + v, item(1, v), 1);
            for (int v : notShorts) due("not of " + v, item(1, v), 0);
        });
        Checks.sentence("32: of ints all bits", () -> {
            due("12", item(2, 12), 1);
            for (int v : bytes) if (v != 12) due("not of " + v, item(2, v), 0);
            for (int v : shorts) if (v != 12) due("not of " + v, item(2, v), 0);
        });
    }

    /** Whether an item of that sort, told v, is the pair 12: it is 1 already then. */
    private static int item(int sort, int v) {
        ThreesAtTable x = Checks.strangers(3);
        x.meet(1, 2, 1);
        Checks.fill(x, 0, sort, v);
        int already = x.judge(0, 0);
        x.meet(1, 2, 0);
        return already == 0 && x.judge(0, 0) == Checks.NONE ? 1 : 0;
    }

    // ---- 33: copy

    private static ThreesAtTable two(int sort) {
        return row(row(Checks.strangers(7), 0, sort, 5), 1, sort, 0);
    }

    /** 01 02 12 03 13 in SHEET 0, 46 56 36 in SHEET 1. */
    private static ThreesAtTable fiveAndThree(int sort) {
        ThreesAtTable x = row(Checks.strangers(7), 0, sort, 5);
        Checks.fill(x, 1, sort, 46, 56, 36);
        return x;
    }

    private static void copy() {
        Checks.sentence("33: n numbers from item i on come to item j on: first, last, all, one, none; n", () -> {
            for (int sort = 0; sort <= 2; sort++) {
                ThreesAtTable x = fiveAndThree(sort);
                due("one, the last to the first", x.copy(0, 4, 1, 0, 1), 1);
                holds("to", x, 1, 13, 56, 36);
                holds("from", x, 0, 1, 2, 12, 3, 13);
                x = fiveAndThree(sort);
                due("one, the first to the last", x.copy(0, 0, 1, 2, 1), 1);
                holds("to", x, 1, 46, 56, 1);
                x = fiveAndThree(sort);
                due("three, the first", x.copy(0, 0, 1, 0, 3), 3);
                holds("to", x, 1, 1, 2, 12);
                x = fiveAndThree(sort);
                due("three, the last", x.copy(0, 2, 1, 0, 3), 3);
                holds("to", x, 1, 12, 3, 13);
                x = fiveAndThree(sort);
                due("all three back", x.copy(1, 0, 0, 2, 3), 3);
                holds("to", x, 0, 1, 2, 46, 56, 36);
                holds("from", x, 1, 46, 56, 36);
            }
        });
        Checks.sentence("33: none: 0, and nothing changes", () -> {
            for (int sort = 0; sort <= 2; sort++) {
                ThreesAtTable x = fiveAndThree(sort);
                due("from the first", x.copy(0, 0, 1, 0, 0), 0);
                due("from the last", x.copy(0, 4, 1, 2, 0), 0);
                due("right behind the last", x.copy(0, 5, 1, 3, 0), 0);
                holds("to", x, 1, 46, 56, 36);
            }
        });
        Checks.sentence("33: rows of none", () -> {
            ThreesAtTable x = two(0);
            due("none from it", x.copy(1, 0, 0, 0, 0), 0);
            due("none to it", x.copy(0, 0, 1, 0, 0), 0);
            due("none to itself", x.copy(1, 0, 1, 0, 0), 0);
            due("one from it", x.copy(1, 0, 0, 0, 1), Checks.OUTSIDE);
            due("one to it", x.copy(0, 0, 1, 0, 1), Checks.OUTSIDE);
        });
        Checks.sentence("33: all 40", () -> {
            for (int sort = 0; sort <= 2; sort++) {
                ThreesAtTable x = row(Checks.strangers(7), 0, sort, 40);
                x.sheet(3, sort, 40);
                due("copy", x.copy(0, 0, 3, 0, 40), 40);
                for (int at = 0; at < 21; at++) due("item " + at, place(x, 3, PAIRS[at]), at);
                due("one more", x.copy(0, 0, 3, 0, 41), Checks.OUTSIDE);
            }
        });
    }

    private static void copyWithin() {
        Checks.sentence("33: as they were: within one SHEET, forth and back", () -> {
            for (int sort = 0; sort <= 2; sort++) {
                ThreesAtTable x = row(Checks.strangers(7), 0, sort, 6);
                due("forth", x.copy(0, 0, 0, 2, 4), 4);
                x.cell(0, 0, 46);
                x.cell(0, 1, 56);
                holds("forth", x, 0, 46, 56, 1, 2, 12, 3);
                x = row(Checks.strangers(7), 0, sort, 6);
                due("back", x.copy(0, 2, 0, 0, 4), 4);
                x.cell(0, 4, 46);
                x.cell(0, 5, 56);
                holds("back", x, 0, 12, 3, 13, 23, 46, 56);
                x = row(Checks.strangers(7), 0, sort, 6);
                due("where they are", x.copy(0, 0, 0, 0, 6), 6);
                holds("where they are", x, 0, 1, 2, 12, 3, 13, 23);
            }
        });
        Checks.sentence("33: all numbers of one, from all items to all", () -> {
            for (int i = 0; i <= 7; i++) {
                for (int j = 0; j <= 5; j++) {
                    for (int n = -1; n <= 7; n++) {
                        ThreesAtTable x = Checks.strangers(7);
                        row(x, 0, 0, 6);
                        x.sheet(1, 0, 4);
                        boolean inside = n >= 0 && i + n <= 6 && j + n <= 4;
                        due("copy " + i + " " + j + " " + n, x.copy(0, i, 1, j, n), inside ? n : Checks.OUTSIDE);
                        for (int at = 0; inside && at < n; at++) due("came", one(x, 1, j + at), PAIRS[i + at]);
                        if (!inside) for (int at = 0; at < 4; at++) due("none came", one(x, 1, at), 0);
                    }
                }
            }
        });
    }

    /** One item, if it is one of the first six of PAIRS; else 0. */
    private static int one(ThreesAtTable x, int sheet, int at) {
        x.sheet(3, 0, 1);
        x.copy(sheet, at, 3, 0, 1);
        for (int pair = 0; pair < 6; pair++) if (place(x, 3, PAIRS[pair]) == 0 && x.judge(3, 0) == Checks.NONE) return PAIRS[pair];
        return 0;
    }

    private static void copyRefused() {
        Checks.sentence("33: BAD: no such SHEET, the one or the other; nothing changes", () -> {
            Checks.refused("the one", Checks.BAD, x -> x.copy(4, 0, 0, 0, 1), x -> x.copy(-1, 0, 0, 0, 1), x -> x.copy(MIN, 0, 0, 0, 0), x -> x.copy(MAX, 0, 0, 0, 1));
            Checks.refused("the other", Checks.BAD, x -> x.copy(0, 0, 4, 0, 1), x -> x.copy(0, 0, -1, 0, 1), x -> x.copy(0, 0, MIN, 0, 0), x -> x.copy(0, 0, MAX, 0, 1));
        });
        Checks.sentence("33: -11: one is missing, or the other, or both; nothing changes", () ->
            Checks.refused("missing", Checks.NOTHING, x -> x.copy(3, 0, 0, 0, 1), x -> x.copy(0, 0, 3, 0, 1), x -> x.copy(3, 0, 3, 0, 1),
                x -> x.copy(3, 0, 0, 0, 0), x -> x.copy(1, 0, 3, 0, 0)));
        Checks.sentence("33: -13: they are of unlike sorts, none asked too; nothing changes", () ->
            Checks.refused("unlike", Checks.OTHER, x -> x.copy(0, 0, 1, 0, 1), x -> x.copy(1, 0, 0, 0, 1), x -> x.copy(0, 0, 2, 0, 1), x -> x.copy(2, 0, 0, 0, 1),
                x -> x.copy(1, 0, 2, 0, 1), x -> x.copy(2, 0, 1, 0, 0)));
        Checks.sentence("33: -12: outside of the one; nothing changes", () ->
            Checks.refused("outside of the one", Checks.OUTSIDE, x -> x.copy(0, -1, 0, 0, 1), x -> x.copy(0, 4, 0, 0, 1), x -> x.copy(0, 3, 0, 0, 2), x -> x.copy(0, 0, 0, 0, 5),
                x -> x.copy(0, MAX, 0, 0, 1), x -> x.copy(0, MAX, 0, 0, MAX), x -> x.copy(0, MIN, 0, 0, 1), x -> x.copy(0, MIN, 0, 0, MIN)));
        Checks.sentence("33: -12: outside of the other; nothing changes", () ->
            Checks.refused("outside of the other", Checks.OUTSIDE, x -> x.copy(0, 0, 0, -1, 1), x -> x.copy(0, 0, 0, 4, 1), x -> x.copy(0, 0, 0, 3, 2),
                x -> x.copy(0, 0, 0, MAX, 1), x -> x.copy(0, 1, 0, MAX, MAX), x -> x.copy(0, 0, 0, MIN, 1)));
        Checks.sentence("33: -12: also with n below 0; nothing changes", () ->
            Checks.refused("n below 0", Checks.OUTSIDE, x -> x.copy(0, 0, 0, 0, -1), x -> x.copy(0, 2, 0, 2, -1), x -> x.copy(0, 4, 0, 4, -4), x -> x.copy(0, 0, 0, 0, MIN),
                x -> x.copy(2, 4, 2, 0, MIN)));
        Checks.sentence("33: BAD ahead of -11, -11 ahead of -13, -13 ahead of -12", () -> {
            Checks.refused("BAD", Checks.BAD, x -> x.copy(3, 0, 4, 0, 1), x -> x.copy(4, 0, 3, 0, 1), x -> x.copy(4, -1, 0, 0, -1));
            Checks.refused("-11", Checks.NOTHING, x -> x.copy(3, -1, 0, 0, 1), x -> x.copy(0, 0, 3, 0, -1), x -> x.copy(0, 9, 3, 9, 9));
            Checks.refused("-13", Checks.OTHER, x -> x.copy(0, -1, 1, 0, 1), x -> x.copy(0, 0, 1, 9, 1), x -> x.copy(0, 0, 2, 0, -1), x -> x.copy(2, 0, 1, 0, MIN));
        });
    }

    // ---- 34: pairs

    private static void pairs() {
        Checks.sentence("34: three by three, n of them, from 0 to 13", () -> {
            int[] items = new int[39];
            String[] pairs = Checks.pairsOf(6).split(" ");
            for (int at = 0; at < 13; at++) {
                items[3 * at] = pairs[at].charAt(0) - '0';
                items[3 * at + 1] = pairs[at].charAt(1) - '0';
                items[3 * at + 2] = 1;
            }
            for (int sort = 0; sort <= 2; sort++) {
                for (int n = 0; n <= 13; n++) {
                    ThreesAtTable x = Checks.strangers(7);
                    Checks.fill(x, 0, sort, items);
                    due("pairs", x.pairs(0, sort, 0, n), n);
                    due("that are 1", x.count(1), n);
                    for (int at = 0; at < 13; at++) due("told", x.told(items[3 * at], items[3 * at + 1]), at < n ? 1 : 0);
                }
            }
        });
        Checks.sentence("34: 13 of them to the end of a SHEET that is full, from 1 on", () -> {
            for (int sort = 0; sort <= 2; sort++) {
                ThreesAtTable x = Checks.strangers(7);
                x.sheet(0, sort, 40);
                x.cell(0, 37, 5);
                x.cell(0, 38, 6);
                x.cell(0, 39, 2);
                due("from 1", x.pairs(0, sort, 1, 13), 1);
                due("the last", x.told(5, 6), 2);
                due("from 2", x.pairs(0, sort, 2, 13), Checks.OUTSIDE);
                due("from 37 one", x.pairs(0, sort, 37, 1), 1);
                due("from 38 one", x.pairs(0, sort, 38, 1), Checks.OUTSIDE);
            }
        });
        Checks.sentence("34: from one on: each item may be the first", () -> {
            for (int from = 0; from <= 4; from++) {
                ThreesAtTable x = Checks.strangers(7);
                x.sheet(0, 0, from + 3);
                x.cell(0, from, 6);
                x.cell(0, from + 1, 2);
                x.cell(0, from + 2, 1);
                due("from " + from, x.pairs(0, 0, from, 1), 1);
                due("that pair", x.told(2, 6), 1);
                due("no other", x.count(1), 1);
            }
        });
        Checks.sentence("34: none of them: 0, wherever it begins", () -> {
            for (int sort = 0; sort <= 2; sort++) {
                ThreesAtTable x = Checks.strangers(7);
                Checks.fill(x, 0, sort, 0, 1, 1);
                due("from 0", x.pairs(0, sort, 0, 0), 0);
                due("from the last", x.pairs(0, sort, 2, 0), 0);
                due("nothing becomes so", x.count(1), 0);
                x.sheet(0, sort, 0);
                due("a row of none", x.pairs(0, sort, 0, 0), 0);
                due("one of a row of none", x.pairs(0, sort, 0, 1), Checks.OUTSIDE);
            }
        });
    }

    private static void pairsOfItems() {
        Checks.sentence("34: as of meet(): any way round, 0 to 2; others are left out", () -> {
            for (int i = -1; i <= 4; i++) {
                for (int j = -1; j <= 4; j++) {
                    for (int v = -1; v <= 3; v++) {
                        ThreesAtTable x = Checks.table(4, "01 12 23", "02 13");
                        ThreesAtTable y = Checks.table(4, "01 12 23", "02 13");
                        Checks.fill(x, 2, 0, i, j, v);
                        int became = y.meet(i, j, v) >= 0 ? 1 : 0;
                        due("pair " + i + " " + j + " " + v, x.pairs(2, 0, 0, 1), became);
                        for (String pair : Checks.pairsOf(4).split(" ")) {
                            int a = pair.charAt(0) - '0';
                            int b = pair.charAt(1) - '0';
                            due("told " + pair, x.told(a, b), y.told(a, b));
                        }
                    }
                }
            }
        });
        Checks.sentence("34: how many became so: also what was so already; those left out between", () -> {
            ThreesAtTable x = Checks.table(4, "01", "");
            Checks.fill(x, 0, 1, 0, 1, 1, 0, 4, 1, 2, 3, 2, 2, 2, 0, 3, 2, 1, 0, 1, 3);
            due("pairs", x.pairs(0, 1, 0, 6), 3);
            due("01", x.told(0, 1), 1);
            due("23: the later one", x.told(2, 3), 1);
        });
        Checks.sentence("34: by a SHEET of bytes, of shorts, of ints: as they wrap", () -> {
            int[] became = {1, 0, 0};
            for (int sort = 0; sort <= 2; sort++) {
                ThreesAtTable x = Checks.strangers(4);
                Checks.fill(x, 0, sort, 256, 256 + 3, 512 + 1);
                due("256", x.pairs(0, sort, 0, 1), became[sort]);
                Checks.fill(x, 0, sort, 65536, 65536 + 2, -65536 + 1);
                due("65536", x.pairs(0, sort, 0, 1), sort < 2 ? 1 : 0);
            }
        });
        Checks.sentence("34: -12: what stood ahead became so", () -> {
            ThreesAtTable x = Checks.strangers(7);
            Checks.fill(x, 0, 2, 0, 1, 1, 2, 3, 2, 4, 5, 1, 5, 6);
            due("the fourth is not whole", x.pairs(0, 2, 0, 4), Checks.OUTSIDE);
            due("01", x.told(0, 1), 1);
            due("23", x.told(2, 3), 2);
            due("45", x.told(4, 5), 1);
            due("56", x.told(5, 6), 0);
            x.sit(7);
            due("three are", x.pairs(0, 2, 0, 3), 3);
            x.sit(7);
            due("13 of them", x.pairs(0, 2, 0, 13), Checks.OUTSIDE);
            due("three became so", x.count(1) * 10 + x.count(2), 21);
            Checks.fill(x, 0, 2, 0, 1, 1, 5, 6);
            x.sit(7);
            due("the second lacks one", x.pairs(0, 2, 0, 2), Checks.OUTSIDE);
            due("the first became so", x.told(0, 1), 1);
            Checks.fill(x, 0, 2, 0, 1, 1, 5);
            x.sit(7);
            due("the second lacks two", x.pairs(0, 2, 0, 2), Checks.OUTSIDE);
            due("the first became so", x.count(1), 1);
        });
        Checks.sentence("34: a pair that is left out ahead of -12", () -> {
            ThreesAtTable x = Checks.strangers(4);
            Checks.fill(x, 0, 0, 0, 0, 1, 0, 3, 1);
            due("pairs", x.pairs(0, 0, 0, 3), Checks.OUTSIDE);
            due("03", x.told(0, 3), 1);
        });
    }

    private static void pairsRefused() {
        Checks.sentence("34: BAD: no such SHEET, sort, n; nothing changes", () -> {
            Checks.refused("no such sheet", Checks.BAD, x -> x.pairs(4, 0, 0, 1), x -> x.pairs(-1, 0, 0, 1), x -> x.pairs(4, 0, 0, 0), x -> x.pairs(MIN, 0, 0, 1), x -> x.pairs(MAX, 0, 0, 1));
            Checks.refused("no such sort", Checks.BAD, x -> x.pairs(1, 3, 0, 1), x -> x.pairs(1, -1, 0, 1), x -> x.pairs(1, -1, 0, 0), x -> x.pairs(1, MIN, 0, 1), x -> x.pairs(1, MAX, 0, 1));
            Checks.refused("no such n", Checks.BAD, x -> x.pairs(1, 1, 0, 14), x -> x.pairs(1, 1, 0, -1), x -> x.pairs(1, 1, 0, MIN), x -> x.pairs(1, 1, 0, MAX));
        });
        Checks.sentence("34: -13: the SHEET is of another sort, none asked too; nothing changes", () ->
            Checks.refused("another sort", Checks.OTHER, x -> x.pairs(0, 1, 0, 1), x -> x.pairs(0, 2, 0, 1), x -> x.pairs(1, 0, 0, 1), x -> x.pairs(1, 2, 0, 1),
                x -> x.pairs(2, 0, 0, 1), x -> x.pairs(2, 1, 0, 0)));
        Checks.sentence("34: -11: it is missing, of whatever sort it is asked, none asked too; nothing changes", () ->
            Checks.refused("missing", Checks.NOTHING, x -> x.pairs(3, 0, 0, 1), x -> x.pairs(3, 1, 0, 1), x -> x.pairs(3, 2, 0, 13), x -> x.pairs(3, 0, -1, 1), x -> x.pairs(3, 0, 0, 0)));
        Checks.sentence("34: -12: the first is outside; nothing changes", () ->
            Checks.refused("outside", Checks.OUTSIDE, x -> x.pairs(1, 1, 1, 1), x -> x.pairs(1, 1, -1, 1), x -> x.pairs(1, 1, 3, 1), x -> x.pairs(1, 1, -3, 2), x -> x.pairs(1, 1, 40, 1),
                x -> x.pairs(1, 1, MIN, 1), x -> x.pairs(1, 1, MAX, 1), x -> x.pairs(1, 1, MAX - 1, 13), x -> x.pairs(1, 1, MAX - 2, 13)));
        Checks.sentence("34: BAD ahead of -13 and -11, -13 and -11 ahead of -12", () -> {
            Checks.refused("BAD ahead of -13", Checks.BAD, x -> x.pairs(0, 1, 0, 14), x -> x.pairs(0, 3, 0, 1), x -> x.pairs(0, 1, 0, -1));
            Checks.refused("BAD ahead of -11", Checks.BAD, x -> x.pairs(3, 0, 0, 14), x -> x.pairs(3, 3, 0, 1), x -> x.pairs(3, 0, 0, -1));
            Checks.refused("-13 ahead of -12", Checks.OTHER, x -> x.pairs(0, 1, -1, 1), x -> x.pairs(0, 2, 40, 13), x -> x.pairs(1, 0, MIN, 1));
            Checks.refused("-11 ahead of -12", Checks.NOTHING, x -> x.pairs(3, 1, -1, 1), x -> x.pairs(3, 2, 40, 13), x -> x.pairs(3, 0, MIN, 1));
        });
    }

    // ---- 35: taken

    private static void taken() {
        Checks.sentence("35: a TOWN taken for one of KIND k, or one under that one (also by others between): its NUMBER; -13", () -> {
            String[] kinds = {"0", "01", "02", "013", "024", "025"};
            for (int kind = 0; kind <= 5; kind++) {
                for (int number = 0; number <= 9; number++) {
                    ThreesAtTable x = new ThreesAtTable();
                    x.town(kind, number);
                    for (int k = 0; k <= 5; k++) due(kind + " for " + k, x.taken(0, k), kinds[kind].indexOf('0' + k) >= 0 ? number : Checks.OTHER);
                }
            }
        });
        Checks.sentence("35: the first TOWN and the fifth; -11: no such TOWN; nothing changes", () -> {
            ThreesAtTable x = new ThreesAtTable();
            for (int town = 0; town < 5; town++) x.town(0, 5 + town);
            due("the first", x.taken(0, 0), 5);
            due("the fifth", x.taken(4, 0), 9);
            due("none behind", x.taken(5, 0), Checks.NOTHING);
            due("no town at all", new ThreesAtTable().taken(0, 0), Checks.NOTHING);
            Checks.refused("no such town", Checks.NOTHING, y -> y.taken(3, 0), y -> y.taken(-1, 0), y -> y.taken(5, 5), y -> y.taken(MIN, 0), y -> y.taken(MAX, 0));
        });
        Checks.sentence("35: BAD: k; nothing changes", () ->
            Checks.refused("no such kind", Checks.BAD, x -> x.taken(0, -1), x -> x.taken(0, 6), x -> x.taken(0, MIN), x -> x.taken(0, MAX)));
        Checks.sentence("35: -13; nothing changes", () ->
            Checks.refused("another kind", Checks.OTHER, x -> x.taken(0, 1), x -> x.taken(0, 5), x -> x.taken(1, 1), x -> x.taken(2, 2), x -> x.taken(2, 3)));
        Checks.sentence("35: BAD ahead of -11", () ->
            Checks.refused("no such kind, no such town", Checks.BAD, x -> x.taken(3, 6), x -> x.taken(-1, -1), x -> x.taken(9, MAX)));
    }

    // ---- all of it full, all of it empty

    private static ThreesAtTable fullOfAll() {
        ThreesAtTable x = Checks.friends(7);
        for (int town = 0; town < 5; town++) x.town(5 - town, 9);
        for (int text = 1; text <= 5; text++) Checks.read(x, "counts1;costs1;joy1;");
        x.force(5);
        for (int sheet = 0; sheet <= 3; sheet++) x.sheet(sheet, sheet % 3, 40);
        for (int at = 0; at < 160; at++) x.feed('?');
        x.image();
        return x;
    }

    private static void full() {
        Checks.sentence("GUESTS, TOWNS, TEXTS, THE TAPE, all SHEETS full at once: each refuses one more; nothing changes", () -> {
            ThreesAtTable x = fullOfAll();
            String before = Checks.all(x);
            due("a guest", x.sit(8), Checks.BAD);
            due("a town", x.town(0, 0), Checks.FULL);
            due("a text", x.text(), Checks.FULL);
            due("a byte", x.feed('?'), Checks.FULL);
            for (int sheet = 0; sheet <= 3; sheet++) {
                due("an item", x.cell(sheet, 40, 1), Checks.OUTSIDE);
                due("a longer row", x.sheet(sheet, sheet % 3, 41), Checks.BAD);
            }
            due("a sheet", x.sheet(4, 0, 1), Checks.BAD);
            Checks.alike("all", Checks.all(x), before);
            int[] counts = {7, 21, 0, 5, 6, 160, 5};
            for (int what = 0; what < 7; what++) due("count " + what, x.count(what), counts[what]);
        });
        Checks.sentence("all full at once: what there is answers still", () -> {
            ThreesAtTable x = fullOfAll();
            due("the last town", x.asIn(4), 12);
            due("threes", x.threes(2), 5);
            due("image", x.back(), 7);
            due("threes", x.threes(2), 35);
            due("the last text", x.guest(6, 2), 1);
            due("the last item", x.cell(3, 39, 12), 1);
            due("all items", x.copy(0, 0, 3, 0, 40), 40);
            due("which was", x.force(0), 5);
        });
    }

    private static void empty() {
        Checks.sentence("one GUEST, no pair, no TOWN, an empty TAPE, SHEETS of none: all that may be asked", () -> {
            ThreesAtTable x = Checks.strangers(1);
            for (int sheet = 0; sheet <= 3; sheet++) due("sheet", x.sheet(sheet, sheet % 3, 0), 1);
            long[] got = {x.threes(0), x.threes(1), x.threes(2), x.threes(3), x.threes(4), x.most(), x.home(0), x.home(1), x.change(0), x.change(1),
                x.noneLeft(0), x.noneLeft(1), x.noneLeft(2), x.all(0, 0), x.all(1, 1), x.halved(0), x.halved(1), x.fours(), x.common(0), x.common(1),
                x.half(0), x.half(1), x.chance(0), x.chance(1), x.game(0), x.game(1), x.judge(0, 0), x.judge(3, 1), x.drawn(1), x.image(), x.back()};
            long[] want = {0, 0, 0, -1, 0, -1, 0, 0, -1, -1,
                0, 0, 0, 1, 1, 0, 1, 0, 1, 0,
                1, 0, 0, 1, 0, -1, -1, -1, 0, 1, 1};
            for (int at = 0; at < want.length; at++) due("answer " + at, got[at], want[at]);
        });
    }
}
