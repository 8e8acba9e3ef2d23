import java.util.Arrays;

/**
 * Guests at a table, who of them know one another, and the threes of one sort among them.
 * The words are those of the document: ../shared/DOC.md.
 */
public final class ThreesAtTable {
    public static final int NONE = -1, BAD = -2, STATE = -3, FULL = -4;
    public static final long NO = -4611686018427387904L;

    private static final int NOTHING = -11, OUTSIDE = -12, OTHER_SORT = -13, SIZE_BELOW_ZERO = -14;
    private static final int FAULT = -100;
    private static final int TOWNS = 5, TEXTS = 6, SHEETS = 4;
    private static final int FIRST_GUESTS = 6;
    private static final int MOST_UNSEEN = 10;
    private static final int MOST_TOLD_PAIRS = 13;
    private static final String FIRST_TEXT = "counts 1 ; costs 1 ; joy 5 - know ;";

    private final Seats seats;
    private final Table table;
    private final Rule rule;
    private final Standing standing;
    private final Changes changes;
    private final Ways ways;
    private final Reader reader;
    private final Text[] texts;
    private final Town[] towns;
    private final Sheet[] sheets;
    private final Table kept;
    private int textCount;
    private int townCount;
    private int ruleNumber;
    private int keptRule;

    public ThreesAtTable() {
        seats = new Seats();
        table = new Table(seats);
        rule = new Rule(seats, table);
        standing = new Standing(seats);
        changes = new Changes(seats, standing);
        ways = new Ways(seats, standing);
        reader = new Reader();
        texts = new Text[TEXTS];
        towns = new Town[TOWNS];
        sheets = new Sheet[SHEETS];
        for (int sheet = 0; sheet < SHEETS; sheet++) sheets[sheet] = new Sheet();
        kept = new Table(seats);
        keptRule = NONE;
        learnFirstText();
        table.lay(FIRST_GUESTS);
        useText(0);
    }

    // ---- guests, towns

    public int sit(int n) {
        if (n < 1 || n > Seats.GUESTS) return BAD;
        int was = table.guests;
        table.lay(n);
        standing.weigh(rule, n);
        return was;
    }

    public int meet(int i, int j, int v) {
        int pair = pairNumber(i, j);
        if (pair < 0 || v < 0 || v > 2) return BAD;
        int was = table.look(pair);
        table.put(pair, v);
        return was;
    }

    public int told(int i, int j) {
        int pair = pairNumber(i, j);
        return pair < 0 ? BAD : table.look(pair);
    }

    public int town(int kind, int number) {
        if (kind < 0 || kind >= Town.KINDS || number < 0 || number > Town.MOST_NUMBER) return BAD;
        if (townCount >= TOWNS) return FULL;
        towns[townCount] = new Town(kind, number);
        return townCount++;
    }

    public int asIn(int town) {
        Town teller = townAt(town);
        if (teller == null) return BAD;
        int friends = friendsIn(teller);
        table.layBits(friends, table.everyPair() & ~friends);
        return Integer.bitCount(friends);
    }

    public int tells(int town, int i, int j, int what) {
        Town teller = townAt(town);
        if (teller == null || !isGuest(i) || !isGuest(j) || i >= j || !isWithin(what, 1)) return BAD;
        if (what == 1) return teller.price(i, j);
        return teller.knows(i, j, table.guests) ? 1 : 0;
    }

    private boolean isGuest(int guest) {
        return guest >= 0 && guest < table.guests;
    }

    private static boolean isWithin(int what, int last) {
        return what >= 0 && what <= last;
    }

    private int pairNumber(int i, int j) {
        return isGuest(i) && isGuest(j) && i != j ? Seats.pairOf(i, j) : NONE;
    }

    private Town townAt(int town) {
        return town >= 0 && town < townCount && town < TOWNS ? towns[town] : null;
    }

    private int friendsIn(Town teller) {
        int friends = 0;
        for (int j = 1; j < table.guests; j++) {
            for (int i = 0; i < j; i++) {
                if (teller.knows(i, j, table.guests)) friends |= 1 << Seats.pairOf(i, j);
            }
        }
        return friends;
    }

    // ---- texts

    public int feed(int letter) {
        if (letter < 0 || letter > 255) return BAD;
        return reader.put(letter) ? reader.size() : FULL;
    }

    public int text() {
        if (textCount >= TEXTS) return FULL;
        int fault = reader.read();
        reader.empty();
        return fault < 0 ? keepText() : FAULT - fault;
    }

    public int force(int text) {
        if (text < 0 || text >= textCount) return BAD;
        int was = ruleNumber;
        useText(text);
        return was;
    }

    private int keepText() {
        if (textCount >= TEXTS) return FULL;
        texts[textCount] = reader.written();
        return textCount++;
    }

    private void learnFirstText() {
        for (int at = 0; at < FIRST_TEXT.length(); at++) reader.put(FIRST_TEXT.charAt(at));
        if (reader.read() < 0) keepText();
        reader.empty();
    }

    private void useText(int text) {
        if (text < 0 || text >= TEXTS) return;
        ruleNumber = text;
        rule.follow(texts[text]);
        standing.weigh(rule, table.guests);
    }

    // ---- threes

    public int threes(int what) {
        switch (what) {
            case 0: return standing.howMany(table.friends, 0);
            case 1: return standing.howMany(0, table.strangers);
            case 2: return threesNow();
            case 3: return firstThree();
            case 4: return byDegrees();
            default: return BAD;
        }
    }

    public int guest(int i, int what) {
        if (!isGuest(i) || !isWithin(what, 2)) return BAD;
        if (what == 0) return Integer.bitCount(table.knownBy(i));
        return what == 1 ? threesOf(i) : rule.joy(i);
    }

    public int most() {
        int best = NONE;
        int most = 0;
        for (int guest = 0; guest < table.guests; guest++) {
            int threes = threesOf(guest);
            if (threes > most) {
                most = threes;
                best = guest;
            }
        }
        return best;
    }

    private int threesNow() {
        return standing.howMany(table.friends, table.strangers);
    }

    private int firstThree() {
        for (int i = 0; i < table.guests; i++) {
            for (int j = i + 1; j < table.guests; j++) {
                for (int k = j + 1; k < table.guests; k++) {
                    int three = 1 << i | 1 << j | 1 << k;
                    if (standing.stands(three, table.friends, table.strangers)) return 100 * i + 10 * j + k;
                }
            }
        }
        return NONE;
    }

    private int byDegrees() {
        int mixed = 0;
        for (int guest = 0; guest < table.guests; guest++) {
            int knows = Integer.bitCount(table.knownBy(guest));
            mixed += knows * (table.guests - 1 - knows);
        }
        return Seats.threesAmong(table.guests) - mixed / 2;
    }

    private int threesOf(int guest) {
        int others = seats.within(table.everyone() & ~(1 << guest));
        return threesNow() - standing.howMany(table.friends & others, table.strangers & others);
    }

    // ---- what would leave none

    public int home(int what) {
        if (!isWithin(what, 2)) return BAD;
        int gone = sentHome();
        if (what == 0) return Integer.bitCount(gone);
        return what == 1 ? gone : joyOf(table.everyone() & ~gone);
    }

    public int change(int what) {
        if (!isWithin(what, 1)) return BAD;
        int pair = bestChange();
        return pair < 0 || what == 0 ? pair : threesIfChanged(pair);
    }

    public int noneLeft(int what) {
        if (!isWithin(what, 2)) return BAD;
        if (!changes.seek(table, rule)) return NONE;
        if (what == 0) return Integer.bitCount(changes.best);
        return what == 1 ? changes.best : changes.leastCosts;
    }

    private int sentHome() {
        int best = table.everyone();
        for (int gone = 0; gone < table.everyone(); gone++) {
            if (Integer.bitCount(gone) < Integer.bitCount(best) && leavesNone(gone)) best = gone;
        }
        return best;
    }

    private boolean leavesNone(int gone) {
        int pairs = seats.within(table.everyone() & ~gone);
        return standing.anyThree(table.friends & pairs, table.strangers & pairs) == 0;
    }

    private int joyOf(int guests) {
        int joy = 0;
        for (int guest = 0; guest < table.guests; guest++) {
            if ((guests >> guest & 1) == 1) joy += rule.joy(guest);
        }
        return joy;
    }

    private int bestChange() {
        int best = NONE;
        int fewest = threesNow();
        for (int pair = 0; pair < Seats.pairsAmong(table.guests); pair++) {
            if (table.look(pair) == 2) continue;
            int threes = threesIfChanged(pair);
            boolean cheaper = best >= 0 && threes == fewest && rule.costs(pair) < rule.costs(best);
            if (threes < fewest || cheaper) {
                fewest = threes;
                best = pair;
            }
        }
        return best;
    }

    private int threesIfChanged(int pair) {
        return standing.howMany(table.friends ^ 1 << pair, table.strangers ^ 1 << pair);
    }

    // ---- friends

    public int all(int sort, int what) {
        if (!isWithin(sort, 1) || !isWithin(what, 1)) return BAD;
        int alike = sort == 1 ? table.friends : table.strangers;
        int best = 0;
        for (int set = 1; set <= table.everyone(); set++) {
            int pairs = seats.within(set);
            if (Integer.bitCount(set) > Integer.bitCount(best) && (alike & pairs) == pairs) best = set;
        }
        return what == 0 ? Integer.bitCount(best) : best;
    }

    public int halved(int what) {
        if (!isWithin(what, 1)) return BAD;
        int best = 0;
        int fewest = Seats.PAIRS + 1;
        // Odd sets are those with GUEST 0; they rise, so the least of like ones comes first.
        for (int part = 1; part <= table.everyone(); part += 2) {
            int pairs = friendsWithin(part) + friendsWithin(table.everyone() & ~part);
            if (pairs < fewest) {
                fewest = pairs;
                best = part;
            }
        }
        return what == 0 ? fewest : best;
    }

    public int fours() {
        int twice = 0;
        for (int j = 1; j < table.guests; j++) {
            for (int i = 0; i < j; i++) {
                int between = knownByBoth(i, j);
                twice += between * (between - 1) / 2;
            }
        }
        // A ring is met at both of its pairs that face one another.
        return twice / 2;
    }

    public int common(int what) {
        if (!isWithin(what, 1)) return BAD;
        if (what == 1) return whoKnowsAll();
        for (int j = 1; j < table.guests; j++) {
            for (int i = 0; i < j; i++) {
                if (knownByBoth(i, j) != 1) return 0;
            }
        }
        return 1;
    }

    private int friendsWithin(int set) {
        return Integer.bitCount(table.friends & seats.within(set));
    }

    private int knownByBoth(int i, int j) {
        return Integer.bitCount(table.knownBy(i) & table.knownBy(j));
    }

    private int whoKnowsAll() {
        for (int guest = 0; guest < table.guests; guest++) {
            if (Integer.bitCount(table.knownBy(guest)) == table.guests - 1) return guest;
        }
        return NONE;
    }

    // ---- tables, games

    public int without(int n, int what) {
        if (n < 1 || n > Ways.MOST_GUESTS || !isWithin(what, 1)) return BAD;
        ways.drawAll(n);
        return what == 0 ? ways.without : ways.least;
    }

    public int half(int what) {
        if (!isWithin(what, 1)) return BAD;
        if (unseenPairs() > MOST_UNSEEN) return STATE;
        ways.fillAll(table);
        return what == 0 ? ways.without : ways.mostThrees;
    }

    public long chance(int part) {
        if (!isWithin(part, 1) || unseenPairs() > MOST_UNSEEN) return NO;
        ways.fillAll(table);
        int below = 1 << unseenPairs();
        int above = below - ways.without;
        // The ways are a power of two, so only twos can be shared.
        for (int twos = 0; twos < MOST_UNSEEN && below > 1 && above % 2 == 0; twos++) {
            above /= 2;
            below /= 2;
        }
        return part == 0 ? above : below;
    }

    public int game(int what) {
        if (!isWithin(what, 1)) return BAD;
        if (table.guests > Game.MOST_GUESTS) return STATE;
        return what == 0 ? Game.value(seats, table) : Game.pair(seats, table);
    }

    public int judge(int sheet, int what) {
        Sheet row = sheetAt(sheet);
        if (row == null || !isWithin(what, 1)) return BAD;
        if (row.isMissing()) return NOTHING;
        int friends = table.friends;
        int three = NONE;
        for (int at = 0; at < row.size; at++) {
            int pair = introduced(row.item(at));
            if (pair < 0 || (friends >> pair & 1) == 1) return what == 0 ? at : three;
            friends |= 1 << pair;
            if (three < 0 && standing.anyThree(friends, 0) != 0) three = at;
        }
        return what == 0 ? NONE : three;
    }

    public int drawn(int seed) {
        int friends = 0;
        int z = seed;
        for (int pair = 0; pair < Seats.pairsAmong(table.guests); pair++) {
            z = z * 1103515245 + 12345;
            if ((z >>> 13) % 2 == 1) friends |= 1 << pair;
        }
        return standing.howMany(friends, table.everyPair() & ~friends);
    }

    public int like(int town) {
        Town teller = townAt(town);
        if (teller == null) return BAD;
        int otherwise = (table.friends | table.strangers) & (table.friends ^ friendsIn(teller));
        int prices = 0;
        for (int pair = 0; pair < Seats.pairsAmong(table.guests); pair++) {
            if ((otherwise >> pair & 1) == 1) prices += teller.price(seats.lower(pair), seats.higher(pair));
        }
        return prices;
    }

    public int image() {
        kept.layAs(table);
        keptRule = ruleNumber;
        return table.guests;
    }

    public int back() {
        if (keptRule < 0) return STATE;
        table.layAs(kept);
        useText(keptRule);
        return table.guests;
    }

    public int count(int what) {
        switch (what) {
            case 0: return table.guests;
            case 1: return Integer.bitCount(table.friends);
            case 2: return unseenPairs();
            case 3: return townCount;
            case 4: return textCount;
            case 5: return reader.size();
            case 6: return ruleNumber;
            default: return BAD;
        }
    }

    private int unseenPairs() {
        return Integer.bitCount(table.everyPair() & ~(table.friends | table.strangers));
    }

    private int introduced(int item) {
        return item < 0 ? NONE : pairNumber(item / 10, item % 10);
    }

    // ---- the host

    public int sheet(int sheet, int sort, int n) {
        Sheet row = sheetAt(sheet);
        if (row == null || sort < Sheet.MISSING || sort >= Sheet.SORTS) return BAD;
        if (sort == Sheet.MISSING) {
            row.become(sort, 0);
            return 1;
        }
        if (n > Sheet.MOST) return BAD;
        if (n < 0) return SIZE_BELOW_ZERO;
        row.become(sort, n);
        return 1;
    }

    public int cell(int sheet, int i, int v) {
        Sheet row = sheetAt(sheet);
        if (row == null) return BAD;
        if (row.isMissing()) return NOTHING;
        return row.write(i, v) ? 1 : OUTSIDE;
    }

    public int copy(int sheet, int i, int other, int j, int n) {
        Sheet from = sheetAt(sheet);
        Sheet to = sheetAt(other);
        if (from == null || to == null) return BAD;
        if (from.isMissing() || to.isMissing()) return NOTHING;
        if (from.sort != to.sort) return OTHER_SORT;
        if (!from.hasRun(i, n) || !to.hasRun(j, n)) return OUTSIDE;
        System.arraycopy(from.items, i, to.items, j, n);
        return n;
    }

    public int pairs(int sheet, int sort, int from, int n) {
        Sheet row = sheetAt(sheet);
        if (row == null || sort < 0 || sort >= Sheet.SORTS || n < 0 || n > MOST_TOLD_PAIRS) return BAD;
        // A missing SHEET is of no sort at all, so it is not one of another sort.
        if (row.isMissing()) return NOTHING;
        if (row.sort != sort) return OTHER_SORT;
        int became = 0;
        for (int done = 0; done < n; done++) {
            int at = from + 3 * done;
            if (!row.hasRun(at, 3)) return OUTSIDE;
            if (meet(row.item(at), row.item(at + 1), row.item(at + 2)) >= 0) became++;
        }
        return became;
    }

    public int taken(int town, int k) {
        if (k < 0 || k >= Town.KINDS) return BAD;
        Town asked = townAt(town);
        if (asked == null) return NOTHING;
        return asked.isOf(k) ? asked.number : OTHER_SORT;
    }

    private Sheet sheetAt(int sheet) {
        return sheet >= 0 && sheet < SHEETS ? sheets[sheet] : null;
    }

    /**
     * The numbers of pairs, and sets of guests as bits. Pairs and threes of fewer guests
     * come first, so that the same rows serve for any number of guests.
     */
    private static final class Seats {
        static final int GUESTS = 7, PAIRS = 21, THREES = 35, SETS = 128;

        private final int[] within = new int[SETS];
        private final int[] lower = new int[PAIRS];
        private final int[] higher = new int[PAIRS];
        private final int[] threes = new int[THREES];

        Seats() {
            int three = 0;
            for (int last = 0; last < GUESTS; last++) {
                for (int others = 0; others < 1 << last; others++) {
                    int set = others | 1 << last;
                    // The pairs of one guest with all lower ones have numbers side by side.
                    within[set] = within[others] | others << pairsAmong(last);
                    if (Integer.bitCount(others) == 2 && three < THREES) threes[three++] = set;
                }
                for (int first = 0; first < last; first++) {
                    lower[pairOf(first, last)] = first;
                    higher[pairOf(first, last)] = last;
                }
            }
        }

        static int pairsAmong(int guests) {
            return guests * (guests - 1) / 2;
        }

        static int threesAmong(int guests) {
            return guests * (guests - 1) * (guests - 2) / 6;
        }

        static int pairOf(int i, int j) {
            return pairsAmong(Math.max(i, j)) + Math.min(i, j);
        }

        int lower(int pair) {
            return pair >= 0 && pair < PAIRS ? lower[pair] : 0;
        }

        int higher(int pair) {
            return pair >= 0 && pair < PAIRS ? higher[pair] : 0;
        }

        /** The pairs both of whom are in the set. */
        int within(int set) {
            return set >= 0 && set < SETS ? within[set] : 0;
        }

        /** The guests of a three, as a set. */
        int three(int number) {
            return number >= 0 && number < THREES ? threes[number] : 0;
        }

        /** Whether a three with that pair has all its pairs among those of the bits. */
        boolean closes(int pair, int bits) {
            int two = 1 << lower(pair) | 1 << higher(pair);
            for (int third = 0; third < GUESTS; third++) {
                int pairs = within(two | 1 << third);
                if ((two >> third & 1) == 0 && (bits & pairs) == pairs) return true;
            }
            return false;
        }
    }

    /** What is known of the pairs: those that are 1 and those that are 0, as bits by their numbers. */
    private static final class Table {
        private final Seats seats;
        int guests;
        int friends;
        int strangers;

        Table(Seats seats) {
            this.seats = seats;
        }

        void lay(int n) {
            guests = n;
            layBits(0, everyPair());
        }

        void layBits(int friendBits, int strangerBits) {
            friends = friendBits;
            strangers = strangerBits;
        }

        void layAs(Table other) {
            guests = other.guests;
            layBits(other.friends, other.strangers);
        }

        int everyone() {
            return (1 << guests) - 1;
        }

        int everyPair() {
            return seats.within(everyone());
        }

        int look(int pair) {
            if ((friends >> pair & 1) == 1) return 1;
            return (strangers >> pair & 1) == 1 ? 0 : 2;
        }

        void put(int pair, int v) {
            int bit = 1 << pair;
            friends = v == 1 ? friends | bit : friends & ~bit;
            strangers = v == 0 ? strangers | bit : strangers & ~bit;
        }

        /** The guests that one knows, as a set. */
        int knownBy(int guest) {
            int known = 0;
            for (int other = 0; other < guests; other++) {
                if (other != guest && (friends >> Seats.pairOf(guest, other) & 1) == 1) known |= 1 << other;
            }
            return known;
        }
    }

    private static final class Town {
        static final int KINDS = 6, MOST_NUMBER = 9;
        private static final int TOWN = 0, HALVES = 1, RING = 2, PARTS = 3, WHEEL = 4, LOT = 5;
        private static final int[] ABOVE = {NONE, TOWN, TOWN, HALVES, RING, RING};

        private final int kind;
        final int number;

        Town(int kind, int number) {
            this.kind = kind;
            this.number = number;
        }

        boolean isOf(int wanted) {
            int up = kind;
            for (int step = 0; step < KINDS && up >= 0 && up < KINDS; step++) {
                if (up == wanted) return true;
                up = ABOVE[up];
            }
            return false;
        }

        boolean knows(int i, int j, int guests) {
            switch (kind) {
                case HALVES: return areUnlike(i, j, 2);
                case RING: return areNextInRing(i, j, guests);
                case PARTS: return areUnlike(i, j, 2) || areUnlike(i, j, number + 2);
                case WHEEL: return areNextInRing(i, j, guests) || i == 0;
                case LOT: return areNextInRing(i, j, guests) != ((i * 7 + j * 5 + number) % 3 == 0);
                default: return false;
            }
        }

        int price(int i, int j) {
            switch (kind) {
                case HALVES: return 1 + i;
                case RING: return 1 + number;
                case PARTS: return 2 * (1 + i);
                case WHEEL: return Math.max(0, 1 + number - j);
                case LOT: return 1 + number + (i == 1 ? 3 : 0);
                default: return 1;
            }
        }

        private static boolean areUnlike(int i, int j, int modulus) {
            return modulus > 0 && i % modulus != j % modulus;
        }

        private boolean areNextInRing(int i, int j, int guests) {
            int apart = j - i;
            return apart == 1 || apart == guests - 1 || apart == number;
        }
    }

    /** A TEXT that has been read: its three parts as codes, each operation behind what it works on. */
    private static final class Text {
        static final int COUNTS = 0, COSTS = 1, JOY = 2, PARTS = 3;
        // Numbers stand for themselves, names lie above them, operations below 0.
        static final int NAME = 10000;
        static final int ADD = -1, LESS = -2, TIMES = -3, BELOW = -4, SAME = -5, EITHER = -6, BOTH = -7,
            NOT = -8, TURNED = -9;

        private final int[] codes;
        private final int[] ends;

        Text(int[] codes, int[] ends) {
            this.codes = codes;
            this.ends = ends;
        }

        int begin(int part) {
            return part > 0 ? end(part - 1) : 0;
        }

        int end(int part) {
            return part >= 0 && part < ends.length ? ends[part] : 0;
        }

        int code(int at) {
            return at >= 0 && at < codes.length ? codes[at] : 0;
        }
    }

    /** THE TAPE, and how it is read as a TEXT. */
    private static final class Reader {
        private static final int TAPE = 160, MOST_DIGITS = 4, MOST_OPEN = 5;
        // Signs are their own tokens, by their bytes; these lie where no sign does.
        private static final int END = 0, NUMBER = 1, WRONG = 2, WORD = 256;
        private static final int NAMES = 6, WORDS = 12;
        private static final int KEYS = WORD + NAMES, OR = KEYS + 3, AND = KEYS + 4, NOT = KEYS + 5;

        private final int[] tape = new int[TAPE];
        private int size;
        private int start;
        private int next;
        private int token;
        private int number;
        private final int[] codes = new int[TAPE];
        private int codeCount;
        private final int[] ends = new int[Text.PARTS];

        int size() {
            return size;
        }

        void empty() {
            size = 0;
        }

        boolean put(int letter) {
            if (size >= TAPE) return false;
            tape[size++] = letter;
            return true;
        }

        Text written() {
            return new Text(Arrays.copyOf(codes, codeCount), ends.clone());
        }

        /** The place of the FAULT, or NONE. What fails leaves its token unread, so the place is there. */
        int read() {
            next = 0;
            codeCount = 0;
            advance();
            for (int part = 0; part < Text.PARTS; part++) {
                if (!takes(KEYS + part) || !readEither(0) || !takes(';')) return start;
                ends[part] = codeCount;
            }
            return token == END ? NONE : start;
        }

        private boolean takes(int wanted) {
            if (token != wanted) return false;
            advance();
            return true;
        }

        private boolean readEither(int open) {
            if (!readBoth(open)) return false;
            for (int more = 0; more < TAPE && token == OR; more++) {
                advance();
                if (!readBoth(open)) return false;
                write(Text.EITHER);
            }
            return true;
        }

        private boolean readBoth(int open) {
            if (!readNot(open)) return false;
            for (int more = 0; more < TAPE && token == AND; more++) {
                advance();
                if (!readNot(open)) return false;
                write(Text.BOTH);
            }
            return true;
        }

        private boolean readNot(int open) {
            int nots = 0;
            for (; token == NOT && open + nots < MOST_OPEN; nots++) advance();
            // One not more than may be open is left standing, and no SUM begins with it.
            if (!readCompared(open + nots)) return false;
            for (int not = 0; not < nots; not++) write(Text.NOT);
            return true;
        }

        private boolean readCompared(int open) {
            if (!readSum(open)) return false;
            if (token != '<' && token != '=') return true;
            int sign = token;
            advance();
            if (!readSum(open)) return false;
            write(sign == '<' ? Text.BELOW : Text.SAME);
            return true;
        }

        private boolean readSum(int open) {
            if (!readTerm(open)) return false;
            for (int more = 0; more < TAPE && (token == '+' || token == '-'); more++) {
                int sign = token;
                advance();
                if (!readTerm(open)) return false;
                write(sign == '+' ? Text.ADD : Text.LESS);
            }
            return true;
        }

        private boolean readTerm(int open) {
            if (!readOne(open)) return false;
            for (int more = 0; more < TAPE && token == '*'; more++) {
                advance();
                if (!readOne(open)) return false;
                write(Text.TIMES);
            }
            return true;
        }

        private boolean readOne(int open) {
            int turns = 0;
            for (; token == '-' && open + turns < MOST_OPEN; turns++) advance();
            if (!readPlain(open + turns)) return false;
            for (int turn = 0; turn < turns; turn++) write(Text.TURNED);
            return true;
        }

        private boolean readPlain(int open) {
            if (token == NUMBER) {
                write(number);
            } else if (token >= WORD && token < WORD + NAMES) {
                write(Text.NAME + token - WORD);
            } else {
                if (token != '(' || open >= MOST_OPEN) return false;
                advance();
                return readEither(open + 1) && takes(')');
            }
            advance();
            return true;
        }

        private void write(int code) {
            if (codeCount < codes.length) codes[codeCount++] = code;
        }

        private void advance() {
            while (next < size && (tape[next] == 32 || tape[next] == 10)) next++;
            start = next;
            if (start >= size) {
                token = END;
            } else if (isLetter(tape[start])) {
                token = wordToken();
            } else if (isDigit(tape[start])) {
                token = numberToken();
            } else {
                next = start + 1;
                token = isSign(tape[start]) ? tape[start] : WRONG;
            }
        }

        private static boolean isLetter(int letter) {
            return letter >= 'a' && letter <= 'z';
        }

        private static boolean isDigit(int letter) {
            return letter >= '0' && letter <= '9';
        }

        private static boolean isSign(int letter) {
            return letter >= '(' && letter <= '+' || letter >= ';' && letter <= '=' || letter == '-';
        }

        private int wordToken() {
            while (next < size && isLetter(tape[next])) next++;
            for (int word = 0; word < WORDS; word++) {
                if (spells(wordOf(word))) return WORD + word;
            }
            return WRONG;
        }

        private int numberToken() {
            number = 0;
            while (next < size && isDigit(tape[next])) {
                number = number * 10 + tape[next] - '0';
                next++;
            }
            return next - start > MOST_DIGITS ? WRONG : NUMBER;
        }

        private boolean spells(String word) {
            if (word.length() != next - start) return false;
            for (int at = 0; at < word.length(); at++) {
                if (tape[start + at] != word.charAt(at)) return false;
            }
            return true;
        }

        /** The NAMES in the order in which the RULE holds what they stand for, then the KEYS. */
        private static String wordOf(int word) {
            switch (word) {
                case 0: return "one";
                case 1: return "other";
                case 2: return "third";
                case 3: return "know";
                case 4: return "seen";
                case 5: return "many";
                case 6: return "counts";
                case 7: return "costs";
                case 8: return "joy";
                case 9: return "or";
                case 10: return "and";
                case 11: return "not";
                default: return "";
            }
        }
    }

    /** THE RULE, asked of threes, of pairs and of guests of the table as it is now. */
    private static final class Rule {
        private static final int NAMES = 6, STACK = 40, BOUND = 99;

        private final Seats seats;
        private final Table table;
        private final int[] names = new int[NAMES];
        private final int[] stack = new int[STACK];
        private int height;
        private Text text;

        Rule(Seats seats, Table table) {
            this.seats = seats;
            this.table = table;
        }

        void follow(Text next) {
            text = next;
        }

        /** Whether a three of one sort counts; all of its pairs are looked at, then. */
        boolean counts(int one, int other, int third, int know) {
            name(one, other, third, know, 3);
            return answer(Text.COUNTS) != 0;
        }

        int costs(int pair) {
            int is = table.look(pair);
            name(seats.lower(pair), seats.higher(pair), 0, is == 1 ? 1 : 0, is == 2 ? 0 : 1);
            return bounded(answer(Text.COSTS));
        }

        int joy(int guest) {
            name(guest, 0, 0, Integer.bitCount(table.knownBy(guest)), 0);
            return bounded(answer(Text.JOY));
        }

        private static int bounded(int value) {
            return Math.max(0, Math.min(BOUND, value));
        }

        private void name(int one, int other, int third, int know, int seen) {
            names[0] = one;
            names[1] = other;
            names[2] = third;
            names[3] = know;
            names[4] = seen;
            names[5] = table.guests;
        }

        private int answer(int part) {
            if (text == null) return 0;
            height = 0;
            for (int at = text.begin(part); at < text.end(part); at++) step(text.code(at));
            return pop();
        }

        private void step(int code) {
            if (code >= Text.NAME) {
                push(code - Text.NAME < NAMES ? names[code - Text.NAME] : 0);
            } else if (code >= 0) {
                push(code);
            } else {
                int right = pop();
                if (code == Text.NOT) push(right == 0 ? 1 : 0);
                else if (code == Text.TURNED) push(-right);
                else push(joined(code, pop(), right));
            }
        }

        private static int joined(int code, int left, int right) {
            switch (code) {
                case Text.ADD: return left + right;
                case Text.LESS: return left - right;
                case Text.TIMES: return left * right;
                case Text.BELOW: return left < right ? 1 : 0;
                case Text.SAME: return left == right ? 1 : 0;
                case Text.EITHER: return left != 0 || right != 0 ? 1 : 0;
                case Text.BOTH: return left != 0 && right != 0 ? 1 : 0;
                default: return 0;
            }
        }

        private void push(int value) {
            if (height >= 0 && height < STACK) stack[height++] = value;
        }

        private int pop() {
            return height > 0 && height <= STACK ? stack[--height] : 0;
        }
    }

    /**
     * The THREES of tables, of this one or of one that might be. A three of one sort looks the same
     * in all of them, so that THE RULE is asked once for each and not at every table.
     */
    private static final class Standing {
        private final Seats seats;
        private final boolean[] friendsCount = new boolean[Seats.SETS];
        private final boolean[] strangersCount = new boolean[Seats.SETS];
        private int threes;

        Standing(Seats seats) {
            this.seats = seats;
        }

        void weigh(Rule rule, int guests) {
            threes = Seats.threesAmong(guests);
            for (int third = 2; third < guests; third++) {
                for (int other = 1; other < third; other++) {
                    for (int one = 0; one < other; one++) weighThree(rule, one, other, third);
                }
            }
        }

        private void weighThree(Rule rule, int one, int other, int third) {
            int three = 1 << one | 1 << other | 1 << third;
            if (three < 0 || three >= Seats.SETS) return;
            friendsCount[three] = rule.counts(one, other, third, 3);
            strangersCount[three] = rule.counts(one, other, third, 0);
        }

        boolean stands(int three, int friends, int strangers) {
            if (three < 0 || three >= Seats.SETS) return false;
            int pairs = seats.within(three);
            return (friends & pairs) == pairs && friendsCount[three]
                || (strangers & pairs) == pairs && strangersCount[three];
        }

        int howMany(int friends, int strangers) {
            int many = 0;
            for (int number = 0; number < threes; number++) {
                if (stands(seats.three(number), friends, strangers)) many++;
            }
            return many;
        }

        /** One of the THREES, as a set of guests, or the empty set. */
        int anyThree(int friends, int strangers) {
            for (int number = 0; number < threes; number++) {
                int three = seats.three(number);
                if (stands(three, friends, strangers)) return three;
            }
            return 0;
        }

        int howManyWith(int pair, int friends, int strangers) {
            int two = 1 << seats.lower(pair) | 1 << seats.higher(pair);
            int many = 0;
            for (int third = 0; third < Seats.GUESTS; third++) {
                if ((two >> third & 1) == 0 && stands(two | 1 << third, friends, strangers)) many++;
            }
            return many;
        }
    }

    /** NONE LEFT. */
    private static final class Changes {
        private static final int MOST_CHANGES = 3;

        private final Seats seats;
        private final Standing standing;
        private final int[] costs = new int[Seats.PAIRS];
        private boolean found;
        int best;
        int leastCosts;

        Changes(Seats seats, Standing standing) {
            this.seats = seats;
            this.standing = standing;
        }

        boolean seek(Table table, Rule rule) {
            for (int pair = 0; pair < Seats.PAIRS; pair++) costs[pair] = rule.costs(pair);
            found = false;
            for (int size = 0; size <= MOST_CHANGES && !found; size++) {
                tryChanges(this, table.friends, table.strangers, 0, size);
            }
            return found;
        }

        /** A THREE that stands goes only by one of its pairs, so nothing else needs a try. */
        private static void tryChanges(Changes changes, int friends, int strangers, int changed, int left) {
            int three = changes.standing.anyThree(friends, strangers);
            if (three == 0) {
                changes.keepBest(changed);
                return;
            }
            if (left <= 0) return;
            int pairs = changes.seats.within(three) & ~changed;
            for (int pair = 0; pair < Seats.PAIRS; pair++) {
                int bit = 1 << pair;
                if ((pairs & bit) != 0) {
                    tryChanges(changes, friends ^ bit, strangers ^ bit, changed | bit, left - 1);
                }
            }
        }

        private void keepBest(int changed) {
            int together = 0;
            for (int pair = 0; pair < Seats.PAIRS; pair++) {
                if ((changed >> pair & 1) == 1) together += costs[pair];
            }
            if (found && (together > leastCosts || together == leastCosts && changed > best)) return;
            found = true;
            best = changed;
            leastCosts = together;
        }
    }

    /** HALF KNOWN, and WITHOUT: tables that might be, pair by pair. */
    private static final class Ways {
        static final int MOST_GUESTS = 5;

        private final Seats seats;
        private final Standing standing;
        private int pairs;
        int without;
        int mostThrees;
        int least;

        Ways(Seats seats, Standing standing) {
            this.seats = seats;
            this.standing = standing;
        }

        void fillAll(Table table) {
            pairs = Seats.pairsAmong(table.guests);
            without = 0;
            mostThrees = 0;
            int now = standing.howMany(table.friends, table.strangers);
            fillFrom(this, 0, table.friends, table.strangers, now);
        }

        /** The threes are counted as their last pairs come, not anew for each table. */
        private static void fillFrom(Ways ways, int from, int friends, int strangers, int threes) {
            int pair = from;
            while (pair < ways.pairs && ((friends | strangers) >> pair & 1) == 1) pair++;
            if (pair >= ways.pairs) {
                if (threes == 0) ways.without++;
                ways.mostThrees = Math.max(ways.mostThrees, threes);
                return;
            }
            int known = friends | 1 << pair;
            int unknown = strangers | 1 << pair;
            fillFrom(ways, pair + 1, known, strangers, threes + ways.standing.howManyWith(pair, known, strangers));
            fillFrom(ways, pair + 1, friends, unknown, threes + ways.standing.howManyWith(pair, friends, unknown));
        }

        void drawAll(int guests) {
            pairs = Seats.pairsAmong(guests);
            without = 0;
            least = NONE;
            drawFrom(this, 0, 0, 0);
        }

        private static void drawFrom(Ways ways, int pair, int friends, int strangers) {
            if (pair >= ways.pairs) {
                ways.without++;
                if (ways.least < 0 || friends < ways.least) ways.least = friends;
                return;
            }
            int known = friends | 1 << pair;
            int unknown = strangers | 1 << pair;
            if (!ways.seats.closes(pair, known)) drawFrom(ways, pair + 1, known, strangers);
            if (!ways.seats.closes(pair, unknown)) drawFrom(ways, pair + 1, friends, unknown);
        }
    }

    /** THE GAME. */
    private static final class Game {
        static final int MOST_GUESTS = 4;
        private static final int MOST_PAIRS = 6;

        static int value(Seats seats, Table table) {
            return worth(seats, table.friends, table.strangers, table.everyPair(), MOST_PAIRS);
        }

        static int pair(Seats seats, Table table) {
            int value = value(seats, table);
            int free = table.everyPair() & ~(table.friends | table.strangers);
            for (int pair = 0; pair < MOST_PAIRS; pair++) {
                if ((free >> pair & 1) == 0) continue;
                int grown = table.friends | 1 << pair;
                if (worthOfTurn(seats, pair, grown, table.strangers, table.everyPair(), MOST_PAIRS) == value) return pair;
            }
            return NONE;
        }

        /** What the one whose turn it is can reach; the two differ only in whose pairs are whose. */
        private static int worth(Seats seats, int mine, int theirs, int every, int left) {
            int free = every & ~(mine | theirs);
            if (free == 0 || left <= 0) return 0;
            int best = -1;
            for (int pair = 0; pair < MOST_PAIRS && best < 1; pair++) {
                if ((free >> pair & 1) == 0) continue;
                best = Math.max(best, worthOfTurn(seats, pair, mine | 1 << pair, theirs, every, left));
            }
            return best;
        }

        private static int worthOfTurn(Seats seats, int pair, int grown, int theirs, int every, int left) {
            return seats.closes(pair, grown) ? -1 : -worth(seats, theirs, grown, every, left - 1);
        }
    }

    /** A SHEET: its row keeps its place when it is missing. */
    private static final class Sheet {
        static final int MISSING = -1, BYTES = 0, SHORTS = 1, SORTS = 3, MOST = 40;

        int sort = MISSING;
        int size;
        final int[] items = new int[MOST];

        boolean isMissing() {
            return sort == MISSING;
        }

        void become(int newSort, int n) {
            sort = newSort;
            size = n;
            Arrays.fill(items, 0);
        }

        /** Whether n items from one on are there; a run of none may begin behind the last. */
        boolean hasRun(int from, int n) {
            return from >= 0 && n >= 0 && from <= size - n;
        }

        int item(int at) {
            return at >= 0 && at < size ? items[at] : 0;
        }

        boolean write(int at, int v) {
            if (at < 0 || at >= size) return false;
            items[at] = sort == BYTES ? (byte) v : sort == SHORTS ? (short) v : v;
            return true;
        }
    }
}
