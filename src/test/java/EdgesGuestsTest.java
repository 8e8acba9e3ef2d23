/** Promises 1 to 7, and SEATS: each sentence that names an edge, and each refused call. */
public final class EdgesGuestsTest {
    private static final int MIN = Checks.MIN, MAX = Checks.MAX;

    public static void main(String[] args) {
        newObject();
        seats();
        sit();
        meet();
        told();
        town();
        asIn();
        tells();
        prices();
        Checks.end();
    }

    private static void due(String call, long got, long want) {
        Checks.due(call, got, want);
    }

    // ---- 1: a new object

    private static void newObject() {
        Checks.sentence("1: six GUESTS", () -> {
            ThreesAtTable x = new ThreesAtTable();
            due("count", x.count(0), 6);
            due("the last", x.guest(5, 0), 0);
            due("no seventh", x.guest(6, 0), Checks.BAD);
            due("what sit answers first", new ThreesAtTable().sit(1), 6);
        });
        Checks.sentence("1: who don't know one another (0 at first, all LOOKED at)", () -> {
            ThreesAtTable x = new ThreesAtTable();
            for (int i = 0; i < 6; i++) for (int j = 0; j < 6; j++) if (i != j) due("told " + i + j, x.told(i, j), 0);
            due("pairs that are 1", x.count(1), 0);
            due("pairs not looked at", x.count(2), 0);
        });
        Checks.sentence("1: no TOWN, TEXT 0 alone, an empty TAPE, TEXT 0 THE RULE, no IMAGE, no SHEET", () -> {
            ThreesAtTable x = new ThreesAtTable();
            due("towns", x.count(3), 0);
            due("texts", x.count(4), 1);
            due("tape", x.count(5), 0);
            due("rule", x.count(6), 0);
            due("image", x.back(), Checks.STATE);
            for (int sheet = 0; sheet < 4; sheet++) due("sheet " + sheet, x.cell(sheet, 0, 0), Checks.NOTHING);
        });
        Checks.sentence("1: THE RULE at first: counts 1 ; costs 1 ; joy 5 - know", () -> {
            ThreesAtTable x = Checks.friends(7);
            due("counts friends", x.threes(0), 35);
            due("joy of one who knows six, 0 at least", x.guest(6, 2), 0);
            due("counts strangers", Checks.strangers(7).threes(1), 35);
            for (int know = 0; know <= 5; know++) {
                x = Checks.strangers(7);
                for (int other = 1; other <= know; other++) x.meet(0, other, 1);
                due("joy of one who knows " + know, x.guest(0, 2), 5 - know);
            }
            due("costs", Checks.strangers(3).noneLeft(2), 1);
        });
        Checks.sentence("1: each object for itself", () -> {
            ThreesAtTable x = new ThreesAtTable();
            ThreesAtTable y = Checks.rich();
            due("guests", x.count(0), 6);
            due("pairs", x.count(1) + x.count(2), 0);
            due("towns and tape", x.count(3) + x.count(5), 0);
            due("texts", x.count(4), 1);
            due("the other's pairs", y.count(1), 4);
        });
        Checks.sentence("the constants", () -> {
            due("NONE", ThreesAtTable.NONE, -1);
            due("BAD", ThreesAtTable.BAD, -2);
            due("STATE", ThreesAtTable.STATE, -3);
            due("FULL", ThreesAtTable.FULL, -4);
            due("NO", ThreesAtTable.NO, -4611686018427387904L);
        });
        Checks.sentence("an object is used for at most 512 calls: the last one too answers as due", () -> {
            ThreesAtTable x = new ThreesAtTable();
            for (int call = 1; call <= 510; call++) x.meet(0, 1, call % 3);
            due("call 511", x.told(0, 1), 0);
            due("call 512", x.threes(2), 20);
        });
    }

    private static void seats() {
        Checks.sentence("SEATS: the pair (i, j) has the number j (j - 1) by 2, and i", () -> {
            String[] pairs = "01 02 12 03 13 23 04 14 24 34 05 15 25 35 45 06 16 26 36 46 56".split(" ");
            for (int number = 0; number < 21; number++) {
                int i = pairs[number].charAt(0) - '0';
                int j = pairs[number].charAt(1) - '0';
                int k = i != 0 && j != 0 ? 0 : i != 1 && j != 1 ? 1 : 2;
                ThreesAtTable x = Checks.strangers(7);
                x.meet(i, j, 1);
                x.meet(j, k, 1);
                x.meet(k, i, 1);
                Checks.ruled(x, "counts know;costs 1-(one=" + i + " and other=" + j + ");joy 1;");
                due("change " + pairs[number], x.change(0), number);
                due("none left " + pairs[number], x.noneLeft(1), 1 << number);
                due("costs " + pairs[number], x.noneLeft(2), 0);
            }
        });
    }

    // ---- 2: sit

    private static void sit() {
        Checks.sentence("2: n from 1 to 7, how many there were", () -> {
            for (int was = 1; was <= 7; was++) {
                for (int n = 1; n <= 7; n++) {
                    ThreesAtTable x = Checks.friends(was);
                    due("sit " + n + " behind " + was, x.sit(n), was);
                    due("count", x.count(0), n);
                    due("the last", x.guest(n - 1, 0), 0);
                    due("none behind the last", x.guest(n, 0), Checks.BAD);
                }
            }
        });
        Checks.sentence("2: none of whom knows another one", () -> {
            for (int n = 1; n <= 7; n++) {
                ThreesAtTable x = Checks.table(7, "01 12 56", "02 45 06");
                x.sit(n);
                for (int j = 0; j < n; j++) for (int i = 0; i < j; i++) due("told " + i + j, x.told(i, j), 0);
                due("pairs that are 1", x.count(1), 0);
                due("not looked at", x.count(2), 0);
            }
        });
        Checks.sentence("2: who went comes back as one who knows nobody", () -> {
            ThreesAtTable x = Checks.table(7, "56 05", "46");
            x.sit(4);
            x.sit(7);
            due("56", x.told(5, 6), 0);
            due("46", x.told(4, 6), 0);
            due("pairs", x.count(1) + x.count(2), 0);
        });
        Checks.sentence("2: sit to as many as there are clears the table as well", () -> {
            ThreesAtTable x = Checks.table(6, "01", "23");
            due("sit", x.sit(6), 6);
            due("pairs", x.count(1) + x.count(2), 0);
        });
        Checks.sentence("2: towns, texts, THE TAPE, THE RULE, SHEETS and THE IMAGE stay", () -> {
            ThreesAtTable x = Checks.rich();
            x.force(1);
            x.sit(2);
            due("towns", x.count(3), 3);
            due("texts", x.count(4), 2);
            due("tape", x.count(5), 3);
            due("rule", x.count(6), 1);
            due("sheet", x.cell(0, 3, 0), 1);
            due("image", x.back(), 5);
        });
        Checks.sentence("2: BAD below 1, above 7; nothing changes", () ->
            Checks.refused("sit", Checks.BAD, x -> x.sit(0), x -> x.sit(8), x -> x.sit(-1), x -> x.sit(MIN), x -> x.sit(MAX)));
    }

    // ---- 3, 4: meet, told

    private static void meet() {
        Checks.sentence("3: any way round, v from 0 to 2, what it was", () -> {
            for (int n = 2; n <= 7; n++) {
                ThreesAtTable x = Checks.strangers(n);
                for (int i = 0; i < n; i++) {
                    for (int j = 0; j < n; j++) {
                        if (i == j) continue;
                        due("meet 1", x.meet(i, j, 1), 0);
                        due("meet 1 again", x.meet(j, i, 1), 1);
                        due("meet 2", x.meet(i, j, 2), 1);
                        due("meet 2 again", x.meet(j, i, 2), 2);
                        due("meet 0", x.meet(i, j, 0), 2);
                        due("meet 0 again", x.meet(j, i, 0), 0);
                    }
                }
            }
        });
        Checks.sentence("3: from each of 0, 1, 2 to each", () -> {
            for (int was = 0; was <= 2; was++) {
                for (int v = 0; v <= 2; v++) {
                    ThreesAtTable x = Checks.strangers(7);
                    x.meet(5, 6, was);
                    due("meet", x.meet(6, 5, v), was);
                    due("told", x.told(5, 6), v);
                    due("pairs that are 1", x.count(1), v == 1 ? 1 : 0);
                    due("not looked at", x.count(2), v == 2 ? 1 : 0);
                }
            }
        });
        Checks.sentence("3: that pair, and no other", () -> {
            for (String pair : Checks.pairsOf(7).split(" ")) {
                ThreesAtTable x = Checks.table(7, pair, "");
                for (String other : Checks.pairsOf(7).split(" ")) {
                    due(other + " behind " + pair, x.told(other.charAt(1) - '0', other.charAt(0) - '0'), other.equals(pair) ? 1 : 0);
                }
            }
        });
        Checks.sentence("3: BAD: one with oneself, no guest, no such v; nothing changes", () -> {
            Checks.refused("meet one with oneself", Checks.BAD, x -> x.meet(0, 0, 1), x -> x.meet(5, 5, 0), x -> x.meet(-1, -1, 1));
            Checks.refused("meet no guest", Checks.BAD, x -> x.meet(6, 0, 1), x -> x.meet(0, 6, 1), x -> x.meet(-1, 0, 1),
                x -> x.meet(0, -1, 1), x -> x.meet(MIN, 0, 1), x -> x.meet(0, MAX, 1), x -> x.meet(7, 6, 1));
            Checks.refused("meet no such v", Checks.BAD, x -> x.meet(0, 1, 3), x -> x.meet(0, 1, -1), x -> x.meet(0, 1, MIN),
                x -> x.meet(0, 1, MAX), x -> x.meet(2, 4, 3));
        });
        Checks.sentence("3: the last GUEST of n, and the next one, for each n", () -> {
            for (int n = 1; n <= 7; n++) {
                due("last", Checks.strangers(n).meet(n - 1, 0, 1), n == 1 ? Checks.BAD : 0);
                due("next", Checks.strangers(n).meet(0, n, 1), Checks.BAD);
                due("next, the other way", Checks.strangers(n).meet(n, n - 1, 1), Checks.BAD);
            }
        });
    }

    private static void told() {
        Checks.sentence("4: what a pair is: 0, 1, 2, also the other way round", () -> {
            ThreesAtTable x = Checks.table(7, "56 01", "06 34");
            int[][] due = {{5, 6, 1}, {6, 5, 1}, {0, 1, 1}, {1, 0, 1}, {0, 6, 2}, {6, 0, 2}, {3, 4, 2}, {4, 3, 2}, {0, 2, 0}, {6, 4, 0}};
            for (int[] d : due) due("told " + d[0] + d[1], x.told(d[0], d[1]), d[2]);
            due("asking changes nothing", x.count(1) * 10 + x.count(2), 22);
        });
        Checks.sentence("4: the last GUEST of n, and the next one, for each n", () -> {
            for (int n = 1; n <= 7; n++) {
                due("last", Checks.friends(n).told(n - 1, 0), n == 1 ? Checks.BAD : 1);
                due("next", Checks.friends(n).told(0, n), Checks.BAD);
                due("next, the other way", Checks.friends(n).told(n, 0), Checks.BAD);
            }
        });
        Checks.sentence("4: BAD; nothing changes", () ->
            Checks.refused("told", Checks.BAD, x -> x.told(0, 0), x -> x.told(5, 5), x -> x.told(6, 0), x -> x.told(0, 6),
                x -> x.told(-1, 0), x -> x.told(0, -1), x -> x.told(6, 6), x -> x.told(MIN, MAX), x -> x.told(MAX, MIN)));
    }

    // ---- 5: town

    private static ThreesAtTable fullOfTowns() {
        ThreesAtTable x = Checks.rich();
        x.town(5, 9);
        x.town(0, 0);
        return x;
    }

    private static void town() {
        Checks.sentence("5: KINDS 0 to 5, NUMBERS 0 to 9", () -> {
            for (int kind = 0; kind <= 5; kind++) {
                for (int number = 0; number <= 9; number++) {
                    ThreesAtTable x = new ThreesAtTable();
                    due("town " + kind + " " + number, x.town(kind, number), 0);
                    due("its kind and number", x.taken(0, kind), number);
                }
            }
        });
        Checks.sentence("5: 5 TOWNS at most, numbered from 0", () -> {
            ThreesAtTable x = new ThreesAtTable();
            for (int town = 0; town < 5; town++) {
                due("town", x.town(town + 1, 2 * town), town);
                due("count", x.count(3), town + 1);
                due("its number", x.taken(town, town + 1), 2 * town);
                due("none behind it", x.taken(town + 1, 0), Checks.NOTHING);
            }
        });
        Checks.sentence("5: FULL; nothing changes", () ->
            Checks.refused(EdgesGuestsTest::fullOfTowns, "a sixth town", Checks.FULL, x -> x.town(0, 0), x -> x.town(5, 9), x -> x.town(2, 3)));
        Checks.sentence("5: BAD: no such KIND, NUMBER; nothing changes", () ->
            Checks.refused("town", Checks.BAD, x -> x.town(-1, 0), x -> x.town(6, 0), x -> x.town(0, -1), x -> x.town(0, 10),
                x -> x.town(MIN, 0), x -> x.town(MAX, 0), x -> x.town(0, MIN), x -> x.town(5, MAX)));
        Checks.sentence("5: BAD ahead of FULL", () ->
            Checks.refused(EdgesGuestsTest::fullOfTowns, "no such town, and full", Checks.BAD, x -> x.town(6, 0), x -> x.town(-1, 0),
                x -> x.town(0, 10), x -> x.town(0, -1)));
    }

    // ---- 6: asIn

    private static void asIn() {
        Checks.sentence("6: all pairs become as a TOWN tells, those not LOOKED at too", () -> {
            ThreesAtTable x = Checks.table(4, "01 02 03", "12 13 23");
            x.town(1, 0);
            due("as in halves", x.asIn(0), 4);
            int[][] due = {{0, 1, 1}, {0, 2, 0}, {1, 2, 1}, {0, 3, 1}, {1, 3, 0}, {2, 3, 1}};
            for (int[] d : due) due("told " + d[0] + d[1], x.told(d[0], d[1]), d[2]);
            due("not looked at", x.count(2), 0);
            due("how many", x.count(1), 4);
            due("no three of strangers", x.threes(1), 0);
            due("two strangers at most", x.all(0, 1), 5);
            due("no three of friends", x.threes(0), 0);
        });
        Checks.sentence("6: how many know one another then: of all numbers of GUESTS, none to all", () -> {
            int[] rings = {0, 1, 3, 4, 5, 6, 7};
            int[] halves = {0, 1, 2, 4, 6, 9, 12};
            for (int n = 1; n <= 7; n++) {
                ThreesAtTable x = Checks.friends(n);
                x.town(0, 9);
                x.town(1, 0);
                x.town(2, 0);
                x.town(3, 5);
                due("town of " + n, x.asIn(0), 0);
                due("count", x.count(1), 0);
                due("halves of " + n, x.asIn(1), halves[n - 1]);
                due("ring of " + n, x.asIn(2), rings[n - 1]);
                due("parts of " + n + ", modulo 7", x.asIn(3), n * (n - 1) / 2);
                due("count", x.count(1), n * (n - 1) / 2);
            }
        });
        Checks.sentence("6: the first TOWN and the fifth", () -> {
            ThreesAtTable x = Checks.strangers(3);
            for (int town = 0; town < 4; town++) x.town(0, 0);
            x.town(2, 0);
            due("the fifth", x.asIn(4), 3);
            due("the first", x.asIn(0), 0);
            due("none behind", x.asIn(5), Checks.BAD);
        });
        Checks.sentence("6: BAD; nothing changes", () -> {
            Checks.refused("asIn", Checks.BAD, x -> x.asIn(3), x -> x.asIn(-1), x -> x.asIn(5), x -> x.asIn(4), x -> x.asIn(MIN), x -> x.asIn(MAX));
            due("no town at all", new ThreesAtTable().asIn(0), Checks.BAD);
        });
    }

    // ---- 7: tells

    /** Which pairs a new TOWN tells to know one another. */
    private static String known(int n, int kind, int number) {
        ThreesAtTable x = Checks.strangers(n);
        x.town(kind, number);
        StringBuilder known = new StringBuilder();
        for (String pair : Checks.pairsOf(n).split(" ")) {
            if (!pair.isEmpty() && x.tells(0, pair.charAt(0) - '0', pair.charAt(1) - '0', 0) == 1) known.append(pair).append(' ');
        }
        due("as it tells", x.asIn(0), x.count(1));
        due("as many", x.count(1), known.length() / 3);
        return known.toString().trim();
    }

    private static void tells() {
        Checks.sentence("KNOWS: a TOWN: no", () -> {
            for (int n = 1; n <= 7; n++) Checks.alike("town", known(n, 0, n), "");
        });
        Checks.sentence("KNOWS: HALVES: i and j are unlike modulo 2", () -> {
            Checks.alike("halves of 7", known(7, 1, 0), "01 12 03 23 14 34 05 25 45 16 36 56");
            Checks.alike("NUMBER does nothing", known(7, 1, 9), known(7, 1, 0));
        });
        Checks.sentence("KNOWS: RING: j less i is 1, or n less 1, or NUMBER", () -> {
            Checks.alike("ring of 7", known(7, 2, 0), "01 12 23 34 45 06 56");
            Checks.alike("ring of 1", known(1, 2, 0), "");
            Checks.alike("ring of 2", known(2, 2, 5), "01");
            Checks.alike("ring of 3", known(3, 2, 9), "01 02 12");
            Checks.alike("ring of 5, 1", known(5, 2, 1), "01 12 23 04 34");
            Checks.alike("ring of 5, 3", known(5, 2, 3), "01 12 03 23 04 14 34");
            Checks.alike("ring of 7, 6", known(7, 2, 6), known(7, 2, 0));
            Checks.alike("ring of 7, 9", known(7, 2, 9), known(7, 2, 0));
            Checks.alike("ring of 7, 5", known(7, 2, 5), "01 12 23 34 05 45 06 16 56");
        });
        Checks.sentence("KNOWS: PARTS: HALVES would, or i and j are unlike modulo NUMBER and 2", () -> {
            Checks.alike("parts 0", known(7, 3, 0), known(7, 1, 0));
            Checks.alike("parts 1: but 06", known(7, 3, 1), "01 02 12 03 13 23 04 14 24 34 05 15 25 35 45 16 26 36 46 56");
            Checks.alike("parts 2: but 04 15 26", known(7, 3, 2), "01 02 12 03 13 23 14 24 34 05 25 35 45 06 16 36 46 56");
            Checks.alike("parts 4: but 06", known(7, 3, 4), known(7, 3, 1));
            for (int number : new int[] {3, 5, 6, 7, 8, 9}) Checks.alike("parts " + number + ": all", known(7, 3, number), Checks.pairsOf(7));
        });
        Checks.sentence("KNOWS: WHEEL: as a RING, or if i is 0", () -> {
            Checks.alike("wheel of 5", known(5, 4, 0), "01 02 12 03 23 04 34");
            Checks.alike("wheel of 5, 2", known(5, 4, 2), "01 02 12 03 13 23 04 24 34");
            Checks.alike("wheel of 2", known(2, 4, 7), "01");
        });
        Checks.sentence("KNOWS: LOT: a RING's turned round, if (i times 7, and j times 5, and NUMBER) modulo 3 is 0", () -> {
            // i + 2 j + NUMBER modulo 3: of 0 for 03 14 of NUMBER 0, for 01 04 12 23 34 of NUMBER 1, for 02 13 24 of NUMBER 2.
            Checks.alike("lot of 5, 0", known(5, 5, 0), "01 12 03 23 04 14 34");
            Checks.alike("lot of 5, 1", known(5, 5, 1), "");
            Checks.alike("lot of 5, 2: also a ring of 2", known(5, 5, 2), "01 12 23 04 34");
            Checks.alike("lot of 5, 9: turned as of 0", known(5, 5, 9), known(5, 5, 0));
        });
        Checks.sentence("7: BAD: no such TOWN, i not below j, no GUEST, no such what; nothing changes", () -> {
            Checks.refused("tells of no town", Checks.BAD, x -> x.tells(3, 0, 1, 0), x -> x.tells(-1, 0, 1, 0), x -> x.tells(5, 0, 1, 0),
                x -> x.tells(MIN, 0, 1, 1), x -> x.tells(MAX, 0, 1, 1));
            Checks.refused("tells not below", Checks.BAD, x -> x.tells(0, 0, 0, 0), x -> x.tells(0, 1, 0, 0), x -> x.tells(0, 5, 4, 1),
                x -> x.tells(0, 5, 5, 1));
            Checks.refused("tells of no guest", Checks.BAD, x -> x.tells(0, -1, 0, 0), x -> x.tells(0, 0, 6, 0), x -> x.tells(0, 6, 7, 1),
                x -> x.tells(0, MIN, 1, 1), x -> x.tells(0, 0, MAX, 1));
            Checks.refused("tells no such thing", Checks.BAD, x -> x.tells(0, 0, 1, 2), x -> x.tells(0, 0, 1, -1), x -> x.tells(0, 0, 1, MIN),
                x -> x.tells(0, 0, 1, MAX));
            due("no town at all", new ThreesAtTable().tells(0, 0, 1, 0), Checks.BAD);
        });
        Checks.sentence("7: the last GUEST of n, and the next one, for each n", () -> {
            for (int n = 1; n <= 7; n++) {
                ThreesAtTable x = Checks.strangers(n);
                x.town(2, 0);
                due("last of " + n, x.tells(0, n - 2, n - 1, 0), n == 1 ? Checks.BAD : 1);
                due("next of " + n, x.tells(0, n - 1, n, 0), Checks.BAD);
                due("price of the next of " + n, x.tells(0, 0, n, 1), Checks.BAD);
            }
        });
        Checks.sentence("7: it tells the same whatever is told of the pair", () -> {
            for (int v = 0; v <= 2; v++) {
                ThreesAtTable x = Checks.strangers(3);
                x.town(1, 0);
                x.meet(0, 1, v);
                x.meet(0, 2, v);
                due("01", x.tells(0, 0, 1, 0), 1);
                due("02", x.tells(0, 0, 2, 0), 0);
                due("nothing changes", x.told(0, 1), v);
            }
        });
    }

    private static void prices() {
        Checks.sentence("PRICE of each KIND, NUMBERS 0 and 9, the first pair and the last", () -> {
            // For each kind: of NUMBER 0 pairs 01, 16, 56; then of NUMBER 9.
            int[][] prices = {{1, 1, 1, 1, 1, 1}, {1, 2, 6, 1, 2, 6}, {1, 1, 1, 10, 10, 10}, {2, 4, 12, 2, 4, 12},
                {0, 0, 0, 9, 4, 4}, {1, 4, 1, 10, 13, 10}};
            for (int kind = 0; kind <= 5; kind++) {
                ThreesAtTable x = Checks.strangers(7);
                x.town(kind, 0);
                x.town(kind, 9);
                for (int town = 0; town < 2; town++) {
                    due("kind " + kind + ", 01", x.tells(town, 0, 1, 1), prices[kind][3 * town]);
                    due("kind " + kind + ", 16", x.tells(town, 1, 6, 1), prices[kind][3 * town + 1]);
                    due("kind " + kind + ", 56", x.tells(town, 5, 6, 1), prices[kind][3 * town + 2]);
                }
            }
        });
        Checks.sentence("PRICE 0 at least, in the end: a WHEEL's about 0", () -> {
            ThreesAtTable x = Checks.strangers(7);
            x.town(4, 4);
            int[] prices = {4, 3, 2, 1, 0, 0};
            for (int j = 1; j <= 6; j++) due("0" + j, x.tells(0, 0, j, 1), prices[j - 1]);
        });
        Checks.sentence("PRICE: LOT: 3 if i is 1, not if j is", () -> {
            ThreesAtTable x = Checks.strangers(7);
            x.town(5, 2);
            due("01", x.tells(0, 0, 1, 1), 3);
            for (int j = 2; j < 7; j++) due("1" + j, x.tells(0, 1, j, 1), 6);
            due("23", x.tells(0, 2, 3, 1), 3);
        });
    }
}
