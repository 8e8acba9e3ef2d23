import java.util.ArrayList;
import java.util.List;

/** The document again, in its plainest and slowest form. */
final class Slow {
    private int n = 6;
    private int[][] told = new int[7][7];
    private final List<int[]> towns = new ArrayList<>();
    private final List<List<String>[]> texts = new ArrayList<>();
    private StringBuilder tape = new StringBuilder();
    private int rule;
    private int keptN = -1, keptRule;
    private int[][] keptTold;
    private final Object[] sheets = new Object[4];

    Slow() {
        tape.append("counts 1 ; costs 1 ; joy 5 - know ;");
        text();
    }

    private static int[][] copyOf(int[][] rows) {
        int[][] copy = new int[rows.length][];
        for (int at = 0; at < rows.length; at++) copy[at] = rows[at].clone();
        return copy;
    }

    private boolean pair(int i, int j) {
        return i >= 0 && j >= 0 && i < n && j < n && i != j;
    }

    private static void set(int[][] t, int i, int j, int v) {
        t[i][j] = v;
        t[j][i] = v;
    }

    private static int seat(int i, int j) {
        return j * (j - 1) / 2 + i;
    }

    private List<int[]> seats() {
        List<int[]> seats = new ArrayList<>();
        for (int j = 0; j < n; j++) for (int i = 0; i < j; i++) seats.add(new int[] {i, j});
        return seats;
    }

    int sit(int m) {
        if (m < 1 || m > 7) return -2;
        int was = n;
        n = m;
        told = new int[7][7];
        return was;
    }

    int meet(int i, int j, int v) {
        if (!pair(i, j) || v < 0 || v > 2) return -2;
        int was = told[i][j];
        set(told, i, j, v);
        return was;
    }

    int told(int i, int j) {
        return pair(i, j) ? told[i][j] : -2;
    }

    int town(int kind, int number) {
        if (kind < 0 || kind > 5 || number < 0 || number > 9) return -2;
        if (towns.size() == 5) return -4;
        towns.add(new int[] {kind, number});
        return towns.size() - 1;
    }

    private boolean knows(int kind, int number, int i, int j) {
        boolean ring = j - i == 1 || j - i == n - 1 || j - i == number;
        boolean halves = (i + j) % 2 == 1;
        if (kind == 1) return halves;
        if (kind == 2) return ring;
        if (kind == 3) return halves || i % (number + 2) != j % (number + 2);
        if (kind == 4) return ring || i == 0;
        if (kind == 5) return (i * 7 + j * 5 + number) % 3 == 0 ? !ring : ring;
        return false;
    }

    private int price(int kind, int number, int i, int j) {
        int[] prices = {1, 1 + i, 1 + number, 2 * (1 + i), 1 + number - j, 1 + number + (i == 1 ? 3 : 0)};
        return prices[kind] < 0 ? 0 : prices[kind];
    }

    int asIn(int town) {
        if (town < 0 || town >= towns.size()) return -2;
        int know = 0;
        for (int[] p : seats()) {
            boolean does = knows(towns.get(town)[0], towns.get(town)[1], p[0], p[1]);
            set(told, p[0], p[1], does ? 1 : 0);
            if (does) know++;
        }
        return know;
    }

    int tells(int town, int i, int j, int what) {
        if (town < 0 || town >= towns.size() || i < 0 || i >= j || j >= n || what < 0 || what > 1) return -2;
        int[] t = towns.get(town);
        return what == 1 ? price(t[0], t[1], i, j) : knows(t[0], t[1], i, j) ? 1 : 0;
    }

    int like(int town) {
        if (town < 0 || town >= towns.size()) return -2;
        int[] t = towns.get(town);
        int sum = 0;
        for (int[] p : seats()) {
            int is = told[p[0]][p[1]];
            if (is != 2 && (is == 1) != knows(t[0], t[1], p[0], p[1])) sum += price(t[0], t[1], p[0], p[1]);
        }
        return sum;
    }

    int taken(int town, int k) {
        if (k < 0 || k > 5) return -2;
        if (town < 0 || town >= towns.size()) return -11;
        String[] lines = {"0", "01", "02", "013", "024", "025"};
        return lines[towns.get(town)[0]].indexOf((char) ('0' + k)) >= 0 ? towns.get(town)[1] : -13;
    }

    // ---- texts: all tokens first, then a walk that knows what may come next

    int feed(int letter) {
        if (letter < 0 || letter > 255) return -2;
        if (tape.length() == 160) return -4;
        tape.append((char) letter);
        return tape.length();
    }

    @SuppressWarnings({"unchecked", "rawtypes"})
    int text() {
        if (texts.size() == 6) return -4;
        String words = tape.toString();
        tape = new StringBuilder();
        List<String> tokens = new ArrayList<>();
        List<Integer> places = new ArrayList<>();
        java.util.regex.Matcher m = java.util.regex.Pattern.compile("[a-z]+|[0-9]+|[^a-z0-9 \n]").matcher(words);
        while (m.find()) {
            tokens.add(m.group());
            places.add(m.start());
        }
        places.add(words.length());
        List<String>[] parts = new List[] {new ArrayList<String>(), new ArrayList<String>(), new ArrayList<String>()};
        int fault = walk(tokens, parts);
        if (fault >= 0) return -100 - places.get(fault);
        texts.add(parts);
        return texts.size() - 1;
    }

    /** The first token that can't stand where it does (their number: it ends too early), or -1. */
    private static int walk(List<String> tokens, List<String>[] parts) {
        int at = 0;
        for (int part = 0; part < 3; part++) {
            if (at >= tokens.size() || !tokens.get(at).equals(new String[] {"counts", "costs", "joy"}[part])) return at;
            at++;
            // Each row: nots open, minuses open, whether compared, of the ( that are open and of the outside.
            ArrayList<int[]> rows = new ArrayList<>();
            rows.add(new int[3]);
            boolean wantsOne = true, mayNot = true;
            while (true) {
                if (at >= tokens.size()) return at;
                String t = tokens.get(at);
                int[] row = rows.get(rows.size() - 1);
                int open = rows.size() - 1;
                for (int[] r : rows) open += r[0] + r[1];
                if (wantsOne) {
                    if (t.equals("not") && mayNot && open < 5) {
                        row[0]++;
                    } else if (t.equals("-") && open < 5) {
                        row[1]++;
                        mayNot = false;
                    } else if (t.equals("(") && open < 5) {
                        rows.add(new int[3]);
                        mayNot = true;
                    } else if (t.matches("[0-9]{1,4}|one|other|third|know|seen|many")) {
                        row[1] = 0;
                        wantsOne = false;
                    } else {
                        return at;
                    }
                } else if (t.matches("[-+*]")) {
                    wantsOne = true;
                    mayNot = false;
                } else if (t.matches("[<=]") && row[2] == 0) {
                    row[2] = 1;
                    wantsOne = true;
                    mayNot = false;
                } else if (t.equals("and") || t.equals("or")) {
                    row[0] = 0;
                    row[2] = 0;
                    wantsOne = true;
                    mayNot = true;
                } else if (t.equals(")") && rows.size() > 1) {
                    rows.remove(rows.size() - 1);
                    rows.get(rows.size() - 1)[1] = 0;
                } else if (t.equals(";") && rows.size() == 1) {
                    at++;
                    break;
                } else {
                    return at;
                }
                parts[part].add(t);
                at++;
            }
        }
        return at == tokens.size() ? -1 : at;
    }

    private static int value(List<String> e, int[] names) {
        for (String[] signs : new String[][] {{"or"}, {"and"}}) {
            int at = lastOutside(e, signs);
            if (at >= 0) {
                boolean left = value(e.subList(0, at), names) != 0, right = value(e.subList(at + 1, e.size()), names) != 0;
                return (signs[0].equals("or") ? left || right : left && right) ? 1 : 0;
            }
        }
        if (e.get(0).equals("not")) return value(e.subList(1, e.size()), names) == 0 ? 1 : 0;
        for (String[] signs : new String[][] {{"<", "="}, {"+", "-"}, {"*"}}) {
            int at = lastOutside(e, signs);
            if (at < 0) continue;
            int left = value(e.subList(0, at), names), right = value(e.subList(at + 1, e.size()), names);
            switch (e.get(at)) {
                case "<": return left < right ? 1 : 0;
                case "=": return left == right ? 1 : 0;
                case "+": return left + right;
                case "-": return left - right;
                default: return left * right;
            }
        }
        if (e.get(0).equals("-")) return -value(e.subList(1, e.size()), names);
        if (e.get(0).equals("(")) return value(e.subList(1, e.size() - 1), names);
        String[] all = {"one", "other", "third", "know", "seen", "many"};
        for (int name = 0; name < 6; name++) if (e.get(0).equals(all[name])) return names[name];
        return Integer.parseInt(e.get(0));
    }

    private static final java.util.regex.Pattern ONE_ENDS = java.util.regex.Pattern.compile("[0-9]+|one|other|third|know|seen|many|\\)");

    private static int lastOutside(List<String> e, String[] signs) {
        int open = 0;
        for (int at = e.size() - 1; at > 0; at--) {
            if (e.get(at).equals(")")) open++;
            if (e.get(at).equals("(")) open--;
            if (open != 0) continue;
            boolean behindOne = ONE_ENDS.matcher(e.get(at - 1)).matches();
            for (String sign : signs) if (behindOne && e.get(at).equals(sign)) return at;
        }
        return -1;
    }

    private int ask(int part, int one, int other, int third, int know, int seen) {
        return value(texts.get(rule)[part], new int[] {one, other, third, know, seen, n});
    }

    private static int bound(int v) {
        return v < 0 ? 0 : v > 99 ? 99 : v;
    }

    private int costs(int i, int j) {
        return bound(ask(1, i, j, 0, told[i][j] == 1 ? 1 : 0, told[i][j] == 2 ? 0 : 1));
    }

    private int joy(int guest) {
        return bound(ask(2, guest, 0, 0, degree(guest), 0));
    }

    private int degree(int guest) {
        int d = 0;
        for (int other = 0; other < n; other++) if (other != guest && told[guest][other] == 1) d++;
        return d;
    }

    int force(int text) {
        if (text < 0 || text >= texts.size()) return -2;
        int was = rule;
        rule = text;
        return was;
    }

    // ---- threes

    // Of each TEXT, number of GUESTS, three and know (0, 3): 0 not asked yet, 1 doesn't count, 2 counts.
    private final byte[] answers = new byte[6 * 8 * 128 * 2];

    private boolean counts(int i, int j, int k, int know) {
        int at = ((rule * 8 + n) * 128 + (1 << i | 1 << j | 1 << k)) * 2 + know / 3;
        if (answers[at] == 0) answers[at] = (byte) (ask(0, i, j, k, know, 3) != 0 ? 2 : 1);
        return answers[at] == 2;
    }

    private List<int[]> threesOf(int[][] t, int sort) {
        List<int[]> threes = new ArrayList<>();
        for (int i = 0; i < n; i++) {
            for (int j = i + 1; j < n; j++) {
                for (int k = j + 1; k < n; k++) {
                    if (t[i][j] == sort && t[i][k] == sort && t[j][k] == sort && counts(i, j, k, 3 * sort)) threes.add(new int[] {i, j, k});
                }
            }
        }
        return threes;
    }

    private List<int[]> allThrees(int[][] t) {
        List<int[]> threes = threesOf(t, 1);
        threes.addAll(threesOf(t, 0));
        return threes;
    }

    int threes(int what) {
        if (what == 0) return threesOf(told, 1).size();
        if (what == 1) return threesOf(told, 0).size();
        if (what == 2) return allThrees(told).size();
        if (what == 3) {
            int first = -1;
            for (int[] t : allThrees(told)) {
                int name = 100 * t[0] + 10 * t[1] + t[2];
                if (first < 0 || name < first) first = name;
            }
            return first;
        }
        if (what != 4) return -2;
        int sum = 0;
        for (int g = 0; g < n; g++) sum += degree(g) * (n - 1 - degree(g));
        return n * (n - 1) * (n - 2) / 6 - sum / 2;
    }

    private int in(int guest) {
        int in = 0;
        for (int[] t : allThrees(told)) for (int g : t) if (g == guest) in++;
        return in;
    }

    int guest(int i, int what) {
        if (i < 0 || i >= n || what < 0 || what > 2) return -2;
        return what == 0 ? degree(i) : what == 1 ? in(i) : joy(i);
    }

    int most() {
        int best = -1;
        for (int g = n - 1; g >= 0; g--) if (in(g) > 0 && (best < 0 || in(g) >= in(best))) best = g;
        return best;
    }

    int home(int what) {
        if (what < 0 || what > 2) return -2;
        int best = -1;
        for (int set = (1 << n) - 1; set >= 0; set--) {
            boolean all = true;
            for (int[] t : allThrees(told)) all &= (set >> t[0] & 1) + (set >> t[1] & 1) + (set >> t[2] & 1) > 0;
            if (all && (best < 0 || Integer.bitCount(set) <= Integer.bitCount(best))) best = set;
        }
        int joy = 0;
        for (int g = 0; g < n; g++) if ((best >> g & 1) == 0) joy += joy(g);
        return what == 0 ? Integer.bitCount(best) : what == 1 ? best : joy;
    }

    private int[][] changed(List<int[]> pairs) {
        int[][] t = copyOf(told);
        for (int[] p : pairs) set(t, p[0], p[1], 1 - t[p[0]][p[1]]);
        return t;
    }

    int change(int what) {
        if (what < 0 || what > 1) return -2;
        int best = -1, fewest = allThrees(told).size(), costs = 0;
        for (int[] p : seats()) {
            if (told[p[0]][p[1]] == 2) continue;
            int then = allThrees(changed(List.of(p))).size();
            int c = costs(p[0], p[1]);
            if (then < fewest || best >= 0 && then == fewest && c < costs) {
                best = seat(p[0], p[1]);
                fewest = then;
                costs = c;
            }
        }
        return best < 0 || what == 0 ? best : fewest;
    }

    int noneLeft(int what) {
        if (what < 0 || what > 2) return -2;
        int size = 99, bits = -1, costs = 0;
        List<int[]> seats = seats();
        int[] each = new int[seats.size()];
        for (int at = 0; at < each.length; at++) each[at] = costs(seats.get(at)[0], seats.get(at)[1]);
        for (int set = 0; set < 1 << seats.size(); set++) {
            int many = Integer.bitCount(set);
            if (many > 3 || many > size) continue;
            List<int[]> pairs = new ArrayList<>();
            int c = 0;
            boolean looked = true;
            for (int at = 0; at < seats.size(); at++) {
                int[] p = seats.get(at);
                if ((set >> at & 1) == 0) continue;
                pairs.add(p);
                looked &= told[p[0]][p[1]] != 2;
                c += each[at];
            }
            if (!looked || many == size && c >= costs || !allThrees(changed(pairs)).isEmpty()) continue;
            size = many;
            bits = set;
            costs = c;
        }
        return bits < 0 ? -1 : what == 0 ? size : what == 1 ? bits : costs;
    }

    int all(int sort, int what) {
        if (sort < 0 || sort > 1 || what < 0 || what > 1) return -2;
        int best = 0;
        for (int set = 1; set < 1 << n; set++) {
            boolean alike = true;
            for (int[] p : seats()) if ((set >> p[0] & set >> p[1] & 1) == 1) alike &= told[p[0]][p[1]] == sort;
            if (alike && Integer.bitCount(set) > Integer.bitCount(best)) best = set;
        }
        return what == 0 ? Integer.bitCount(best) : best;
    }

    int halved(int what) {
        if (what < 0 || what > 1) return -2;
        int best = -1, fewest = 99;
        for (int set = 0; set < 1 << n; set++) {
            int inside = 0;
            for (int[] p : seats()) if (told[p[0]][p[1]] == 1 && (set >> p[0] & 1) == (set >> p[1] & 1)) inside++;
            if ((set & 1) == 0 || inside >= fewest) continue;
            fewest = inside;
            best = set;
        }
        return what == 0 ? fewest : best;
    }

    int fours() {
        int walks = 0;
        for (int a = 0; a < n; a++) for (int b = 0; b < n; b++) for (int c = 0; c < n; c++) for (int d = 0; d < n; d++) {
            boolean unlike = a != b && a != c && a != d && b != c && b != d && c != d;
            if (unlike && told[a][b] == 1 && told[b][c] == 1 && told[c][d] == 1 && told[d][a] == 1) walks++;
        }
        return walks / 8;
    }

    int common(int what) {
        if (what < 0 || what > 1) return -2;
        if (what == 1) {
            for (int g = 0; g < n; g++) if (degree(g) == n - 1) return g;
            return -1;
        }
        for (int[] p : seats()) {
            int both = 0;
            for (int g = 0; g < n; g++) if (g != p[0] && g != p[1] && told[g][p[0]] == 1 && told[g][p[1]] == 1) both++;
            if (both != 1) return 0;
        }
        return 1;
    }

    // ---- tables, games

    private static boolean three(int[][] t, int m, int sort, int pi, int pj) {
        for (int i = 0; i < m; i++) for (int j = i + 1; j < m; j++) for (int k = j + 1; k < m; k++) {
            boolean with = pi < 0 || (i == pi || j == pi || k == pi) && (i == pj || j == pj || k == pj);
            if (with && t[i][j] == sort && t[i][k] == sort && t[j][k] == sort) return true;
        }
        return false;
    }

    private static final int[][] WITHOUT = new int[6][];

    int without(int m, int what) {
        if (m < 1 || m > 5 || what < 0 || what > 1) return -2;
        if (WITHOUT[m] == null) WITHOUT[m] = countWithout(m);
        return WITHOUT[m][what];
    }

    private static int[] countWithout(int m) {
        int many = 0, least = -1;
        for (int bits = 0; bits < 1 << m * (m - 1) / 2; bits++) {
            int[][] t = new int[7][7];
            for (int j = 0; j < m; j++) for (int i = 0; i < j; i++) set(t, i, j, bits >> seat(i, j) & 1);
            if (three(t, m, 0, -1, -1) || three(t, m, 1, -1, -1)) continue;
            many++;
            if (least < 0) least = bits;
        }
        return new int[] {many, least};
    }

    private List<int[]> unseen() {
        List<int[]> unseen = new ArrayList<>();
        for (int[] p : seats()) if (told[p[0]][p[1]] == 2) unseen.add(p);
        return unseen;
    }

    private int[] halves() {
        List<int[]> unseen = unseen();
        int none = 0, most = 0;
        for (int way = 0; way < 1 << unseen.size(); way++) {
            int[][] t = copyOf(told);
            for (int at = 0; at < unseen.size(); at++) set(t, unseen.get(at)[0], unseen.get(at)[1], way >> at & 1);
            int threes = allThrees(t).size();
            if (threes == 0) none++;
            most = Math.max(most, threes);
        }
        return new int[] {none, most};
    }

    int half(int what) {
        if (what < 0 || what > 1) return -2;
        return unseen().size() > 10 ? -3 : halves()[what];
    }

    long chance(int part) {
        if (part < 0 || part > 1 || unseen().size() > 10) return -4611686018427387904L;
        long ways = 1L << unseen().size(), with = ways - halves()[0];
        long shared = java.math.BigInteger.valueOf(ways).gcd(java.math.BigInteger.valueOf(with)).longValue();
        return part == 0 ? with / shared : ways / shared;
    }

    /** What comes of it for the first one; sort 1: the first one's turn, sort 0: the second one's. */
    private int play(int[][] t, int sort, int[] pair) {
        int best = sort == 1 ? -2 : 2;
        for (int[] p : seats()) {
            if (t[p[0]][p[1]] != 2) continue;
            set(t, p[0], p[1], sort);
            int value = three(t, n, sort, p[0], p[1]) ? (sort == 1 ? -1 : 1) : play(t, 1 - sort, new int[1]);
            set(t, p[0], p[1], 2);
            if (sort == 1 ? value > best : value < best) {
                best = value;
                pair[0] = seat(p[0], p[1]);
            }
        }
        return best == -2 || best == 2 ? 0 : best;
    }

    int game(int what) {
        if (what < 0 || what > 1) return -2;
        if (n > 4) return -3;
        int[] pair = {-1};
        int value = play(copyOf(told), 1, pair);
        return what == 0 ? value : pair[0];
    }

    int judge(int sheet, int what) {
        if (sheet < 0 || sheet > 3 || what < 0 || what > 1) return -2;
        if (sheets[sheet] == null) return -11;
        int[][] t = copyOf(told);
        int three = -1;
        for (int at = 0; at < java.lang.reflect.Array.getLength(sheets[sheet]); at++) {
            int item = java.lang.reflect.Array.getInt(sheets[sheet], at);
            int found = -1;
            for (int i = 0; i < n; i++) for (int j = 0; j < n; j++) if (i != j && 10 * i + j == item && t[i][j] != 1) found = item;
            if (found < 0) return what == 0 ? at : three;
            set(t, found / 10, found % 10, 1);
            if (three < 0 && !threesOf(t, 1).isEmpty()) three = at;
        }
        return what == 0 ? -1 : three;
    }

    int drawn(int seed) {
        int[][] t = new int[7][7];
        int z = seed;
        for (int[] p : seats()) {
            z = z * 1103515245 + 12345;
            set(t, p[0], p[1], z >>> 13 & 1);
        }
        return allThrees(t).size();
    }

    int image() {
        keptN = n;
        keptRule = rule;
        keptTold = copyOf(told);
        return n;
    }

    int back() {
        if (keptN < 0) return -3;
        n = keptN;
        rule = keptRule;
        told = copyOf(keptTold);
        return n;
    }

    int count(int what) {
        int friends = 0;
        for (int[] p : seats()) if (told[p[0]][p[1]] == 1) friends++;
        int[] counts = {n, friends, unseen().size(), towns.size(), texts.size(), tape.length(), rule};
        return what < 0 || what > 6 ? -2 : counts[what];
    }

    // ---- the host: rows of Java's own, and what Java throws

    int sheet(int sheet, int sort, int size) {
        if (sheet < 0 || sheet > 3 || sort < -1 || sort > 2) return -2;
        if (sort >= 0 && size > 40) return -2;
        try {
            sheets[sheet] = sort == -1 ? null : sort == 0 ? new byte[size] : sort == 1 ? new short[size] : new int[size];
            return 1;
        } catch (NegativeArraySizeException e) {
            return -14;
        }
    }

    int cell(int sheet, int i, int v) {
        if (sheet < 0 || sheet > 3) return -2;
        try {
            Object row = sheets[sheet];
            if (row instanceof byte[]) ((byte[]) row)[i] = (byte) v;
            else if (row instanceof short[]) ((short[]) row)[i] = (short) v;
            else ((int[]) row)[i] = v;
            return 1;
        } catch (NullPointerException e) {
            return -11;
        } catch (ArrayIndexOutOfBoundsException e) {
            return -12;
        }
    }

    int copy(int sheet, int i, int other, int j, int size) {
        if (sheet < 0 || sheet > 3 || other < 0 || other > 3) return -2;
        try {
            System.arraycopy(sheets[sheet], i, sheets[other], j, size);
            return size;
        } catch (NullPointerException e) {
            return -11;
        } catch (ArrayStoreException e) {
            return -13;
        } catch (IndexOutOfBoundsException e) {
            return -12;
        }
    }

    int pairs(int sheet, int sort, int from, int size) {
        if (sheet < 0 || sheet > 3 || sort < 0 || sort > 2 || size < 0 || size > 13) return -2;
        Object row = sheets[sheet];
        boolean alike = sort == 0 ? row instanceof byte[] : sort == 1 ? row instanceof short[] : row instanceof int[];
        if (row != null && !alike) return -13;
        if (row == null) return -11;
        int became = 0;
        try {
            for (int at = 0; at < size; at++) {
                int place = from + 3 * at;
                int i = java.lang.reflect.Array.getInt(row, place), j = java.lang.reflect.Array.getInt(row, place + 1);
                if (meet(i, j, java.lang.reflect.Array.getInt(row, place + 2)) >= 0) became++;
            }
        } catch (ArrayIndexOutOfBoundsException e) {
            return -12;
        }
        return became;
    }
}
