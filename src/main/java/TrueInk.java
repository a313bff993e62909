import java.util.Arrays;

/**
 * Facts that change from day to day, and pages whose ink is black only where their claims are true.
 *
 * <p>All that goes on is one row of ints: what the facts are, the shades of the pages, the day, which
 * pages are wiped, and how the last settling went. A row is copied as one for undo, for the slots and
 * for all questions about what would be, so that none of them can touch what is.
 */
public final class TrueInk {
    public static final int NONE = -1;

    /** The answer where there is such a thing to ask for, but it does not come about. */
    private static final int NOT = -2;

    private static final int BYTES_MOST = 2000;
    private static final int TOKENS_MOST = 400;
    private static final int FACTS_MOST = 8;
    private static final int PAGES_MOST = 6;
    private static final int CLAIMS_MOST = 6;
    private static final int IFS_MOST = 4;
    private static final int NESTED_MOST = 6;
    private static final int WORLDS_MOST = 2000;
    private static final int FACT_MOST = 3;
    private static final int SLIPS_MOST = 100;
    private static final int STEPS_MOST = 300;
    private static final int AHEAD_MOST = 300;
    private static final int AT_ONCE_MOST = 100;
    private static final int BEGUN_MOST = 30;
    private static final int SEEDS_MOST = 20;
    private static final int SEEN_MOST = 20;
    private static final int UNDO_MOST = 50;
    private static final int SLOTS = 3;

    private static final int BLACK = 4;
    private static final int SHADE_COUNT = 5;
    private static final int SHADINGS_MOST = 15625;
    private static final int KEPT_DAYS = 4099;
    private static final int[] FIVES = {1, 5, 25, 125, 625, 3125, 15625};

    // The places in a row; facts stand first.
    private static final int SHADES = 8;
    private static final int DAY = 14;
    private static final int WIPED = 15;
    private static final int FLICKERS = 16;
    private static final int HOW = 17;
    private static final int CHANGES = 18;
    private static final int ROUND = 19;
    private static final int WIDTH = 20;

    private static final int SETTLED = 0;
    private static final int BLINK = 1;
    private static final int WILD = 2;

    private static final int ALL = 0;
    private static final int SOME = 1;
    private static final int PART = 2;

    // What a told text is made into: a run of these, each with an argument above OP_BITS.
    private static final int OP_BITS = 4;
    private static final int OP_MASK = 15;
    private static final int NUM = 0;
    private static final int VAR = 1;
    private static final int ADD = 2;
    private static final int SUB = 3;
    private static final int MUL = 4;
    private static final int DIV = 5;
    private static final int LESS = 6;
    private static final int SAME = 7;
    private static final int MORE = 8;
    private static final int SKIP = 9;
    private static final int END = 10;
    private static final int NAMED = 11;
    private static final int CODE_MOST = 512;
    private static final int STACK_MOST = 32;

    private static final int SYNTAX = 1;
    private static final int ROOM = 2;
    private static final int TWICE = 3;
    private static final int NAME_FAULT = 4;
    private static final int WRONG = 5;
    private static final int THIS_FAULT = 6;
    private static final int MANY = 7;
    private static final int UNKNOWN = 8;

    // Kinds of tokens: a sign is its own character, a word stands WORD_BASE and its place in WORDS.
    private static final int TEXT_END = 0;
    private static final int NO_TOKEN = 1;
    private static final int NAME = 2;
    private static final int INT = 3;
    private static final int NAME_LENGTH_MOST = 8;
    private static final int INT_LENGTH_MOST = 4;
    private static final String SIGNS = ";=+-*/<>()";
    private static final String WORDS =
            "fact mine yours goes page all some part and slips seed if then else this day ";
    private static final int WORD_COUNT = 16;
    private static final int WORD_BASE = 100;
    private static final int W_FACT = 100;
    private static final int W_MINE = 101;
    private static final int W_YOURS = 102;
    private static final int W_GOES = 103;
    private static final int W_PAGE = 104;
    private static final int W_ALL = 105;
    private static final int W_SOME = 106;
    private static final int W_PART = 107;
    private static final int W_AND = 108;
    private static final int W_SLIPS = 109;
    private static final int W_SEED = 110;
    private static final int W_IF = 111;
    private static final int W_THEN = 112;
    private static final int W_ELSE = 113;
    private static final int W_THIS = 114;
    private static final int W_DAY = 115;

    private final byte[] tape;
    private int tapeLength;
    private int faultPlace;
    private final Reader reader;
    private Script script;
    private Script spare;
    private final Press press;
    private final int[] now;
    private final Past past;
    private final int[] slots;
    private int heldSlots;
    private final Worlds worlds;
    private final Stands stands;
    private final Ahead ahead;
    private final Begun begun;

    public TrueInk() {
        tape = new byte[BYTES_MOST];
        tapeLength = 0;
        faultPlace = NONE;
        reader = new Reader();
        script = new Script();
        spare = new Script();
        press = new Press(script);
        now = new int[WIDTH];
        past = new Past();
        slots = new int[SLOTS * WIDTH];
        heldSlots = 0;
        worlds = new Worlds(press);
        stands = new Stands(press);
        ahead = new Ahead(press);
        begun = new Begun(press);
    }

    public int feed(int a, int b, int c, int d, int e) {
        if (tapeLength + 20 > BYTES_MOST) {
            return NONE;
        }
        putBytes(a);
        putBytes(b);
        putBytes(c);
        putBytes(d);
        putBytes(e);
        return tapeLength;
    }

    public int back(int n) {
        if (n < 0 || n > tapeLength) {
            return NONE;
        }
        tapeLength -= n;
        return tapeLength;
    }

    public int read() {
        reader.cut(tape, tapeLength);
        reader.tellAll(spare);
        int fault = reader.judge();
        tapeLength = 0;
        faultPlace = reader.faultPlace;
        if (fault == 0) {
            beginAnew();
        }
        return fault;
    }

    public int place() {
        return faultPlace;
    }

    public int fact(int fact) {
        return isFact(fact) ? now[fact] : NONE;
    }

    public int page(int page, int what) {
        if (!isPage(page)) {
            return NONE;
        }
        switch (what) {
            case 0:
                return now[SHADES + page];
            case 1:
                return now[FLICKERS] >> page & 1;
            case 2:
                return press.trueClaims(page, now);
            case 3:
                return script.claimCount[page];
            case 4:
                return press.firstClaim(page, now, false);
            case 5:
                return press.firstClaim(page, now, true);
            case 6:
                return now[WIPED] >> page & 1;
            default:
                return NONE;
        }
    }

    public int settled(int what) {
        switch (what) {
            case 0:
                return now[HOW];
            case 1:
                return now[CHANGES];
            case 2:
                return now[ROUND];
            default:
                return NONE;
        }
    }

    public int days(int n) {
        if (n < 0 || n > AT_ONCE_MOST) {
            return NONE;
        }
        if (n > 0) {
            past.keep(now);
            for (int i = 0; i < n; i++) {
                press.oneDay(now, script.seed);
            }
            forgetGuesses();
        }
        return now[DAY];
    }

    public boolean set(int fact, int v) {
        if (!isFact(fact) || v < 0 || v > script.most[fact] || v == now[fact]) {
            return false;
        }
        past.keep(now);
        now[fact] = v;
        press.settle(now);
        forgetGuesses();
        return true;
    }

    public boolean wipe(int page, boolean wiped) {
        if (!isPage(page) || (now[WIPED] >> page & 1) == (wiped ? 1 : 0)) {
            return false;
        }
        past.keep(now);
        now[WIPED] ^= 1 << page;
        press.settle(now);
        forgetGuesses();
        return true;
    }

    public boolean undo() {
        if (!past.takeBack(now)) {
            return false;
        }
        forgetGuesses();
        return true;
    }

    public int world(int what) {
        switch (what) {
            case 0:
                return script.worldOf(now);
            case 1:
                return script.worldCount;
            default:
                return NONE;
        }
    }

    public int stands(int i) {
        if (i < NONE) {
            return NONE;
        }
        stands.fill(now);
        return i == NONE ? stands.standCount : stands.numberOf(i);
    }

    public int least(int page, int what) {
        if (!isPage(page) || !isOneOfTwo(what)) {
            return NONE;
        }
        int best = worlds.leastFor(page, now);
        return best < 0 || what == 1 ? best : script.unlikeFacts(best, now);
    }

    public int when(int page) {
        if (!isPage(page)) {
            return NONE;
        }
        for (int d = 0; d <= AHEAD_MOST; d++) {
            if (shadeIn(ahead.shadesAt(d, now), page) == BLACK) {
                return d;
            }
        }
        return NOT;
    }

    public int stays(int page) {
        if (!isPage(page)) {
            return NONE;
        }
        for (int d = 0; d < AHEAD_MOST; d++) {
            if (shadeIn(ahead.shadesAt(d, now), page) != BLACK) {
                return d;
            }
        }
        return AHEAD_MOST;
    }

    public int longest(int page, int n) {
        if (!isPage(page) || !isAhead(n)) {
            return NONE;
        }
        int most = 0;
        int onEnd = 0;
        for (int d = 0; d <= n; d++) {
            boolean black = shadeIn(ahead.shadesAt(d, now), page) == BLACK;
            onEnd = black ? onEnd + 1 : 0;
            most = Math.max(most, onEnd);
        }
        return most;
    }

    public int changed(int n) {
        if (!isAhead(n)) {
            return NONE;
        }
        int then = ahead.shadesAt(n, now);
        int bits = 0;
        for (int p = 0; p < script.pages; p++) {
            if (shadeIn(then, p) != now[SHADES + p]) {
                bits |= 1 << p;
            }
        }
        return bits;
    }

    public int shade(int page, int n) {
        return isPage(page) && isAhead(n) ? shadeIn(ahead.shadesAt(n, now), page) : NONE;
    }

    public int blackIn(int page) {
        return isPage(page) ? worlds.blackFor(page, now) : NONE;
    }

    public int grey(int page, boolean below) {
        if (!isPage(page)) {
            return NONE;
        }
        int above = worlds.shadeSum(page, now);
        int line = BLACK * script.worldCount;
        int common = commonDivisor(above, line);
        return common == 0 ? 0 : (below ? line : above) / common;
    }

    public int weight(int page, int fact) {
        return isPage(page) && isFact(fact) ? worlds.weightFor(page, fact, now) : NONE;
    }

    public int weakest(int page, int what) {
        return isPage(page) && isOneOfTwo(what) ? worlds.weakestOf(page, what, now) : NONE;
    }

    public int bestWorld(int what) {
        if (what < 0 || what > 2) {
            return NONE;
        }
        int best = worlds.bestOf(now);
        switch (what) {
            case 0:
                return best;
            case 1:
                return worlds.blackPages(best);
            default:
                return script.unlikeFacts(best, now);
        }
    }

    public int again(int what) {
        if (!isOneOfTwo(what)) {
            return NONE;
        }
        for (int d = 1; d <= AHEAD_MOST; d++) {
            ahead.shadesAt(d, now);
            int as = ahead.firstAs(d);
            if (as >= 0) {
                return what == 0 ? d : as;
            }
        }
        return NOT;
    }

    public int twins(int n, int what) {
        if (!isBegun(n) || !isOneOfTwo(what)) {
            return NONE;
        }
        begun.reach(n);
        return begun.twinOf(n, what);
    }

    public int rests(int my, int your, int i) {
        if (!isPage(my) || !isPage(your) || my == your || i < NONE) {
            return NONE;
        }
        return worlds.restOf(my, your, i, now);
    }

    public int hopes(int page, int n, int s) {
        if (!isPage(page) || n < 0 || n > AT_ONCE_MOST || s < 1 || s > SEEDS_MOST) {
            return NONE;
        }
        return ahead.hopesFor(page, n, s, now);
    }

    public int see(int page, int n, int shade) {
        if (!isPage(page) || !isBegun(n) || shade < 0 || shade > BLACK) {
            return NONE;
        }
        return begun.note(page, n, shade);
    }

    public int forget() {
        int were = begun.seenCount;
        begun.seenCount = 0;
        return were;
    }

    public int fits(int k, int i) {
        if (!begun.isKnown(k) || i < NONE) {
            return NONE;
        }
        begun.reach(begun.lastKnown(k));
        return begun.fitOf(k, i);
    }

    public int sure(int k) {
        if (!begun.isKnown(k)) {
            return NONE;
        }
        begun.reach(begun.lastKnown(k));
        return begun.sureFacts(k);
    }

    public int next(int k, int n, int what) {
        if (!begun.isKnown(k) || !isBegun(n) || !isOneOfTwo(what)) {
            return NONE;
        }
        begun.reach(Math.max(n, begun.lastKnown(k)));
        return begun.tellsMost(k, n, what);
    }

    public int fewest(int n, int what) {
        if (!isBegun(n) || !isOneOfTwo(what)) {
            return NONE;
        }
        begun.reach(n);
        int bits = begun.fewestPages(n);
        return bits < 0 || what == 1 ? bits : Integer.bitCount(bits);
    }

    public boolean hold(int slot) {
        if (slot < 0 || slot >= SLOTS) {
            return false;
        }
        System.arraycopy(now, 0, slots, slot * WIDTH, WIDTH);
        heldSlots |= 1 << slot;
        return true;
    }

    public boolean restore(int slot) {
        if (slot < 0 || slot >= SLOTS || (heldSlots >> slot & 1) == 0) {
            return false;
        }
        System.arraycopy(slots, slot * WIDTH, now, 0, WIDTH);
        past.clear();
        forgetGuesses();
        return true;
    }

    public int count(int what) {
        switch (what) {
            case 0:
                return script.facts;
            case 1:
                return script.pages;
            case 2:
                return now[DAY];
            case 3:
                return script.slips;
            case 4:
                return blackBits();
            case 5:
                return now[FLICKERS];
            case 6:
                return now[WIPED];
            case 7:
                return tapeLength;
            case 8:
                return past.size;
            case 9:
                return begun.seenCount;
            case 10:
                return Integer.bitCount(heldSlots);
            case 11:
                return script.mine;
            case 12:
                return script.yours;
            default:
                return NONE;
        }
    }

    private void putBytes(int word) {
        for (int shift = 24; shift >= 0 && tapeLength < BYTES_MOST; shift -= 8) {
            tape[tapeLength] = (byte) (word >> shift);
            tapeLength++;
        }
    }

    private void beginAnew() {
        Script read = spare;
        spare = script;
        script = read;
        press.script = read;
        press.begin(now, read.worldTold());
        past.clear();
        heldSlots = 0;
        begun.clear();
        forgetGuesses();
    }

    /** What was worked out about what would be holds only as long as nothing happens. */
    private void forgetGuesses() {
        worlds.ready = false;
        stands.ready = false;
        ahead.reached = NONE;
    }

    private int blackBits() {
        int bits = 0;
        for (int p = 0; p < script.pages; p++) {
            if (now[SHADES + p] == BLACK) {
                bits |= 1 << p;
            }
        }
        return bits;
    }

    private boolean isFact(int fact) {
        return fact >= 0 && fact < script.facts;
    }

    private boolean isPage(int page) {
        return page >= 0 && page < script.pages;
    }

    private static boolean isAhead(int n) {
        return n >= 0 && n <= AHEAD_MOST;
    }

    private static boolean isBegun(int n) {
        return n >= 0 && n <= BEGUN_MOST;
    }

    private static boolean isOneOfTwo(int what) {
        return what == 0 || what == 1;
    }

    private static int shadeIn(int shades, int page) {
        return shades / FIVES[page] % SHADE_COUNT;
    }

    private static int shadesOf(int[] row) {
        int shades = 0;
        for (int p = PAGES_MOST - 1; p >= 0; p--) {
            shades = shades * SHADE_COUNT + row[SHADES + p];
        }
        return shades;
    }

    private static void putShades(int[] row, int shades) {
        int rest = shades;
        for (int p = 0; p < PAGES_MOST; p++) {
            row[SHADES + p] = rest % SHADE_COUNT;
            rest /= SHADE_COUNT;
        }
    }

    private static int commonDivisor(int a, int b) {
        int large = a;
        int small = b;
        for (int n = 0; n < 64 && small != 0; n++) {
            int rest = large % small;
            large = small;
            small = rest;
        }
        return large;
    }

    /** Powers of two, so that texts with ever more worlds make few rows anew. */
    private static int[] roomFor(int[] row, int need) {
        if (row.length >= need) {
            return row;
        }
        int length = 1;
        for (int n = 0; n < 20 && length < need; n++) {
            length *= 2;
        }
        return new int[length];
    }

    /** A text that was read without a fault. */
    private static final class Script {
        int facts;
        int pages;
        int slips;
        int seed;
        int mine;
        int yours;
        int worldCount = 1;
        int length;
        /** Facts and shades alone say what they are on the next day, whichever it is. */
        boolean steady = true;
        final int[] most = new int[FACTS_MOST];
        final int[] told = new int[FACTS_MOST];
        final int[] counts = new int[FACTS_MOST];
        final int[] law = new int[FACTS_MOST];
        final int[] shading = new int[PAGES_MOST];
        final int[] claimCount = new int[PAGES_MOST];
        /** Bits: the claims that look at shades, and so can change while the pages settle. */
        final int[] loose = new int[PAGES_MOST];
        final int[] claim = new int[PAGES_MOST * CLAIMS_MOST];
        final int[] code = new int[CODE_MOST];

        void clear() {
            facts = 0;
            pages = 0;
            slips = 0;
            seed = 0;
            mine = 0;
            yours = 0;
            worldCount = 1;
            length = 0;
            steady = true;
            Arrays.fill(claimCount, 0);
            Arrays.fill(loose, 0);
            Arrays.fill(law, NONE);
        }

        int worldOf(int[] row) {
            int world = 0;
            for (int f = 0; f < facts; f++) {
                world += row[f] * counts[f];
            }
            return world;
        }

        int worldTold() {
            return worldOf(told);
        }

        int factIn(int world, int fact) {
            int ahead = counts[fact];
            return ahead > 0 ? world / ahead % (most[fact] + 1) : 0;
        }

        void putFacts(int[] row, int world) {
            int rest = world;
            for (int f = 0; f < facts; f++) {
                int ways = most[f] + 1;
                row[f] = rest % ways;
                rest /= ways;
            }
        }

        int unlikeFacts(int world, int[] row) {
            int unlike = 0;
            int rest = world;
            for (int f = 0; f < facts; f++) {
                int ways = most[f] + 1;
                if (rest % ways != row[f]) {
                    unlike++;
                }
                rest /= ways;
            }
            return unlike;
        }
    }

    /** Makes days go by and pages settle, on whatever row it is given. */
    private static final class Press {
        Script script;
        private final int[] stack = new int[STACK_MOST];
        private final int[] been = new int[STEPS_MOST + 1];
        private final int[] fresh = new int[FACTS_MOST];
        /** How many claims of each page are true whatever the shades are, as long as facts and day stay. */
        private final int[] firm = new int[PAGES_MOST];
        private int value;

        Press(Script script) {
            this.script = script;
        }

        void begin(int[] row, int world) {
            Arrays.fill(row, 0);
            script.putFacts(row, world);
            settle(row);
        }

        void oneDay(int[] row, int seed) {
            for (int f = 0; f < script.facts; f++) {
                boolean ruled = script.law[f] >= 0 && run(script.law[f], row);
                fresh[f] = ruled ? Math.max(0, Math.min(script.most[f], value)) : row[f];
            }
            for (int f = 0; f < script.facts; f++) {
                row[f] = fresh[f];
                if (script.slips > 0 && lot(seed, 8 * row[DAY] + f) < script.slips) {
                    row[f] = fresh[f] < script.most[f] ? fresh[f] + 1 : 0;
                }
            }
            row[DAY]++;
            settle(row);
        }

        void settle(int[] row) {
            findFirm(row);
            been[0] = shadesOf(row);
            for (int step = 1; step <= STEPS_MOST; step++) {
                int shades = 0;
                for (int p = script.pages - 1; p >= 0; p--) {
                    shades = shades * SHADE_COUNT + shadeAnew(p, row);
                }
                if (shades == been[step - 1]) {
                    end(row, SETTLED, step - 1, 0, 0);
                    return;
                }
                putShades(row, shades);
                for (int b = step - 2; b >= 0; b--) {
                    if (been[b] == shades) {
                        end(row, BLINK, step, step - b, unlikePages(b, step));
                        return;
                    }
                }
                been[step] = shades;
            }
            end(row, WILD, STEPS_MOST, 0, 0);
        }

        /** Has to come ahead of shadeAnew whenever facts or the day are others. */
        void findFirm(int[] row) {
            for (int p = 0; p < script.pages; p++) {
                firm[p] = 0;
                for (int c = 0; c < script.claimCount[p]; c++) {
                    boolean isFirm = (script.loose[p] >> c & 1) == 0;
                    if (isFirm && run(script.claim[p * CLAIMS_MOST + c], row) && value != 0) {
                        firm[p]++;
                    }
                }
            }
        }

        int shadeAnew(int page, int[] row) {
            if ((row[WIPED] >> page & 1) == 1) {
                return 0;
            }
            int hold = firm[page];
            int loose = script.loose[page];
            for (int c = 0; loose >> c != 0 && c < CLAIMS_MOST; c++) {
                if ((loose >> c & 1) == 1 && run(script.claim[page * CLAIMS_MOST + c], row) && value != 0) {
                    hold++;
                }
            }
            return shadeBy(page, hold);
        }

        /** Bits: all shades that the page can get by a step, whatever the shades of the pages are. */
        int shadesThatCanBe(int page, int[] row) {
            if ((row[WIPED] >> page & 1) == 1) {
                return 1;
            }
            int bits = 0;
            int least = firm[page];
            int most = least + Integer.bitCount(script.loose[page]);
            for (int hold = least; hold <= most; hold++) {
                bits |= 1 << shadeBy(page, hold);
            }
            return bits;
        }

        int trueClaims(int page, int[] row) {
            int hold = 0;
            for (int c = 0; c < script.claimCount[page]; c++) {
                if (holds(page, c, row)) {
                    hold++;
                }
            }
            return hold;
        }

        int firstClaim(int page, int[] row, boolean senseless) {
            for (int c = 0; c < script.claimCount[page]; c++) {
                boolean sense = run(script.claim[page * CLAIMS_MOST + c], row);
                if (!sense || !senseless && value == 0) {
                    return c;
                }
            }
            return NOT;
        }

        boolean holds(int page, int claim, int[] row) {
            return run(script.claim[page * CLAIMS_MOST + claim], row) && value != 0;
        }

        private int shadeBy(int page, int hold) {
            int claims = script.claimCount[page];
            switch (script.shading[page]) {
                case ALL:
                    return hold == claims ? BLACK : 0;
                case SOME:
                    return hold > 0 ? BLACK : 0;
                default:
                    return claims > 0 ? BLACK * hold / claims : 0;
            }
        }

        private int unlikePages(int from, int to) {
            int bits = 0;
            for (int s = from + 1; s < to; s++) {
                for (int p = 0; p < script.pages; p++) {
                    if (shadeIn(been[s], p) != shadeIn(been[from], p)) {
                        bits |= 1 << p;
                    }
                }
            }
            return bits;
        }

        private static void end(int[] row, int how, int changes, int round, int flickers) {
            row[HOW] = how;
            row[CHANGES] = changes;
            row[ROUND] = round;
            row[FLICKERS] = flickers;
        }

        private static int lot(int seed, int which) {
            int h = mixed(mixed(seed, 41), which);
            return (h >>> 1) % 100;
        }

        private static int mixed(int h, int with) {
            int much = (h ^ with) * 1103515245 + 12345;
            return much ^ much >>> 15;
        }

        /** False if something that was looked at is divided by 0; else value is what came out. */
        private boolean run(int from, int[] row) {
            int[] code = script.code;
            int length = script.length;
            int top = 0;
            for (int at = from; at >= 0 && at < length; at++) {
                int op = code[at] & OP_MASK;
                int with = code[at] >> OP_BITS;
                if (op <= VAR) {
                    if (top >= STACK_MOST) {
                        return false;
                    }
                    stack[top] = op == NUM ? with : row[with];
                    top++;
                    continue;
                }
                if (top < 1) {
                    return false;
                }
                top--;
                int b = stack[top];
                if (op == END) {
                    value = b;
                    return true;
                }
                if (op == SKIP) {
                    at = b == 0 && with > at ? with - 1 : at;
                    continue;
                }
                if (top < 1 || op == DIV && b == 0) {
                    return false;
                }
                int a = stack[top - 1];
                switch (op) {
                    case ADD:
                        stack[top - 1] = a + b;
                        break;
                    case SUB:
                        stack[top - 1] = a - b;
                        break;
                    case MUL:
                        stack[top - 1] = a * b;
                        break;
                    case DIV:
                        stack[top - 1] = a / b;
                        break;
                    case LESS:
                        stack[top - 1] = a < b ? 1 : 0;
                        break;
                    case SAME:
                        stack[top - 1] = a == b ? 1 : 0;
                        break;
                    default:
                        stack[top - 1] = a > b ? 1 : 0;
                        break;
                }
            }
            return false;
        }
    }

    /** The last things done, as the rows ahead of them. */
    private static final class Past {
        int size;
        private int top;
        private final int[] rows = new int[UNDO_MOST * WIDTH];

        void keep(int[] row) {
            System.arraycopy(row, 0, rows, top * WIDTH, WIDTH);
            top = (top + 1) % UNDO_MOST;
            size = Math.min(size + 1, UNDO_MOST);
        }

        boolean takeBack(int[] row) {
            if (size == 0) {
                return false;
            }
            top = (top + UNDO_MOST - 1) % UNDO_MOST;
            size--;
            System.arraycopy(rows, top * WIDTH, row, 0, WIDTH);
            return true;
        }

        void clear() {
            size = 0;
            top = 0;
        }
    }

    /** How the pages settle in each of the worlds, from the shades as they are now. */
    private static final class Worlds {
        boolean ready;
        private final Press press;
        private final int[] row = new int[WIDTH];
        private final int[] untrue = new int[CLAIMS_MOST];
        private int[] shades = new int[1];
        private int[] whitestMine = new int[1];
        private int[] whitestYours = new int[1];

        Worlds(Press press) {
            this.press = press;
        }

        int leastFor(int page, int[] now) {
            Script script = press.script;
            if (now[SHADES + page] == BLACK) {
                return script.worldOf(now);
            }
            fill(now);
            int best = NOT;
            int fewest = FACTS_MOST + 1;
            for (int w = 0; w < script.worldCount; w++) {
                if (shadeIn(shades[w], page) == BLACK) {
                    int unlike = script.unlikeFacts(w, now);
                    // Nothing to be set is nothing to settle: as it is, the page is not black.
                    if (unlike > 0 && unlike < fewest) {
                        best = w;
                        fewest = unlike;
                    }
                }
            }
            return best;
        }

        int blackFor(int page, int[] now) {
            fill(now);
            int black = 0;
            for (int w = 0; w < press.script.worldCount; w++) {
                if (shadeIn(shades[w], page) == BLACK) {
                    black++;
                }
            }
            return black;
        }

        int shadeSum(int page, int[] now) {
            fill(now);
            int sum = 0;
            for (int w = 0; w < press.script.worldCount; w++) {
                sum += shadeIn(shades[w], page);
            }
            return sum;
        }

        int weightFor(int page, int fact, int[] now) {
            fill(now);
            Script script = press.script;
            int most = script.most[fact];
            int counts = script.counts[fact];
            int unlike = 0;
            for (int w = 0; w < script.worldCount; w++) {
                int more = script.factIn(w, fact) < most ? w + counts : w - most * counts;
                if (shadeIn(shades[w], page) != shadeIn(shades[more], page)) {
                    unlike++;
                }
            }
            return unlike;
        }

        int weakestOf(int page, int what, int[] now) {
            fill(now);
            Script script = press.script;
            int claims = script.claimCount[page];
            Arrays.fill(untrue, 0);
            System.arraycopy(now, 0, row, 0, WIDTH);
            for (int w = 0; w < script.worldCount; w++) {
                script.putFacts(row, w);
                putShades(row, shades[w]);
                for (int c = 0; c < claims; c++) {
                    if (!press.holds(page, c, row)) {
                        untrue[c]++;
                    }
                }
            }
            int weakest = 0;
            for (int c = 1; c < claims; c++) {
                if (untrue[c] > untrue[weakest]) {
                    weakest = c;
                }
            }
            return what == 0 ? weakest : untrue[weakest];
        }

        int bestOf(int[] now) {
            fill(now);
            Script script = press.script;
            int best = 0;
            int most = NONE;
            int fewest = 0;
            for (int w = 0; w < script.worldCount; w++) {
                int black = blackPages(w);
                int unlike = black < most ? 0 : script.unlikeFacts(w, now);
                if (black > most || black == most && unlike < fewest) {
                    best = w;
                    most = black;
                    fewest = unlike;
                }
            }
            return best;
        }

        int blackPages(int world) {
            int black = 0;
            int rest = world < shades.length ? shades[world] : 0;
            for (int p = 0; p < PAGES_MOST; p++) {
                if (rest % SHADE_COUNT == BLACK) {
                    black++;
                }
                rest /= SHADE_COUNT;
            }
            return black;
        }

        int restOf(int my, int your, int i, int[] now) {
            fill(now);
            Script script = press.script;
            findWhitest(my, your);
            int others = ~(script.mine | script.yours);
            int home = partOf(script.worldOf(now), others);
            int found = 0;
            for (int w = 0; w < script.worldCount; w++) {
                if (partOf(w, others) == home
                        && shadeIn(shades[w], your) == whitestYours[partOf(w, ~script.mine)]
                        && shadeIn(shades[w], my) == whitestMine[partOf(w, ~script.yours)]) {
                    if (found == i) {
                        return w;
                    }
                    found++;
                }
            }
            return i == NONE ? found : NONE;
        }

        /** Worlds that differ only in what one of the two can change share the world in which all of that is 0. */
        private void findWhitest(int my, int your) {
            Script script = press.script;
            whitestMine = roomFor(whitestMine, script.worldCount);
            whitestYours = roomFor(whitestYours, script.worldCount);
            Arrays.fill(whitestMine, BLACK);
            Arrays.fill(whitestYours, BLACK);
            for (int w = 0; w < script.worldCount; w++) {
                int byMine = partOf(w, ~script.mine);
                int byYours = partOf(w, ~script.yours);
                whitestYours[byMine] = Math.min(whitestYours[byMine], shadeIn(shades[w], your));
                whitestMine[byYours] = Math.min(whitestMine[byYours], shadeIn(shades[w], my));
            }
        }

        private int partOf(int world, int facts) {
            Script script = press.script;
            int part = 0;
            for (int f = 0; f < script.facts; f++) {
                if ((facts >> f & 1) == 1) {
                    part += script.factIn(world, f) * script.counts[f];
                }
            }
            return part;
        }

        private void fill(int[] now) {
            if (ready) {
                return;
            }
            Script script = press.script;
            shades = roomFor(shades, script.worldCount);
            for (int w = 0; w < script.worldCount; w++) {
                System.arraycopy(now, 0, row, 0, WIDTH);
                script.putFacts(row, w);
                press.settle(row);
                shades[w] = shadesOf(row);
            }
            ready = true;
        }
    }

    /** Which shades could stand, facts and the day as they are: a bit for each number. */
    private static final class Stands {
        boolean ready;
        int standCount;
        private final Press press;
        private final int[] row = new int[WIDTH];
        private final int[] canBe = new int[PAGES_MOST];
        private long[] bits = new long[1];

        Stands(Press press) {
            this.press = press;
        }

        void fill(int[] now) {
            if (ready) {
                return;
            }
            int pages = press.script.pages;
            int numbers = FIVES[pages];
            int need = (numbers + 63) / 64;
            if (bits.length < need) {
                bits = new long[(SHADINGS_MOST + 63) / 64];
            }
            Arrays.fill(bits, 0L);
            System.arraycopy(now, 0, row, 0, WIDTH);
            press.findFirm(row);
            for (int p = 0; p < pages; p++) {
                canBe[p] = press.shadesThatCanBe(p, row);
            }
            standCount = 0;
            for (int number = 0; number < numbers; number++) {
                if (couldStand(number, pages) && doesStand(pages)) {
                    bits[number / 64] |= 1L << number % 64;
                    standCount++;
                }
            }
            ready = true;
        }

        int numberOf(int i) {
            int ahead = 0;
            for (int b = 0; b < bits.length && i < standCount; b++) {
                int here = Long.bitCount(bits[b]);
                if (ahead + here > i) {
                    return b * 64 + placeOf(bits[b], i - ahead);
                }
                ahead += here;
            }
            return NONE;
        }

        /** Most numbers need no claim looked at: some page can never get the shade that it has in them. */
        private boolean couldStand(int number, int pages) {
            int rest = number;
            for (int p = 0; p < pages; p++) {
                int shade = rest % SHADE_COUNT;
                if ((canBe[p] >> shade & 1) == 0) {
                    return false;
                }
                row[SHADES + p] = shade;
                rest /= SHADE_COUNT;
            }
            return true;
        }

        private boolean doesStand(int pages) {
            for (int p = 0; p < pages; p++) {
                if (press.shadeAnew(p, row) != row[SHADES + p]) {
                    return false;
                }
            }
            return true;
        }

        private static int placeOf(long word, int i) {
            int left = i;
            for (int b = 0; b < 64; b++) {
                if ((word >>> b & 1L) == 1L) {
                    if (left == 0) {
                        return b;
                    }
                    left--;
                }
            }
            return 0;
        }
    }

    /** The days to come, worked out only as far as they were asked for. */
    private static final class Ahead {
        int reached = NONE;
        private final Press press;
        private final int[] row = new int[WIDTH];
        private final int[] hoped = new int[WIDTH];
        private final int[] shades = new int[AHEAD_MOST + 1];
        private final int[] worlds = new int[AHEAD_MOST + 1];

        Ahead(Press press) {
            this.press = press;
        }

        int shadesAt(int n, int[] now) {
            Script script = press.script;
            if (reached < 0) {
                System.arraycopy(now, 0, row, 0, WIDTH);
                shades[0] = shadesOf(row);
                worlds[0] = script.worldOf(row);
                reached = 0;
            }
            for (int d = reached + 1; d <= n && d <= AHEAD_MOST; d++) {
                press.oneDay(row, script.seed);
                shades[d] = shadesOf(row);
                worlds[d] = script.worldOf(row);
                reached = d;
            }
            return n >= 0 && n <= AHEAD_MOST ? shades[n] : 0;
        }

        int firstAs(int n) {
            for (int d = 0; d < n && n <= reached; d++) {
                if (shades[d] == shades[n] && worlds[d] == worlds[n]) {
                    return d;
                }
            }
            return NONE;
        }

        int hopesFor(int page, int n, int seeds, int[] now) {
            if (press.script.slips == 0) {
                // No seed makes a difference then.
                return shadeIn(shadesAt(n, now), page) == BLACK ? seeds : 0;
            }
            int black = 0;
            for (int s = 0; s < seeds; s++) {
                System.arraycopy(now, 0, hoped, 0, WIDTH);
                for (int d = 0; d < n; d++) {
                    press.oneDay(hoped, press.script.seed + s);
                }
                if (hoped[SHADES + page] == BLACK) {
                    black++;
                }
            }
            return black;
        }
    }

    /** What was seen, and how it would have gone from each world in the beginning, nothing done by hand. */
    private static final class Begun {
        int seenCount;
        private final Press press;
        private final int[] seenPage = new int[SEEN_MOST];
        private final int[] seenDay = new int[SEEN_MOST];
        private final int[] seenShade = new int[SEEN_MOST];
        private final int[] row = new int[WIDTH];
        private final int[] parted = new int[SHADE_COUNT];
        private int reached = NONE;
        private int[] worlds = new int[1];
        /** Day by day the shades of all worlds. */
        private int[] shades = new int[1];
        private int[] marks = new int[1];
        private int[] from = new int[1];
        private int[] into = new int[1];

        Begun(Press press) {
            this.press = press;
        }

        void clear() {
            seenCount = 0;
            reached = NONE;
        }

        int note(int page, int n, int shade) {
            if (seenCount >= SEEN_MOST) {
                return NONE;
            }
            seenPage[seenCount] = page;
            seenDay[seenCount] = n;
            seenShade[seenCount] = shade;
            seenCount++;
            return seenCount - 1;
        }

        boolean isKnown(int k) {
            return k >= 0 && k <= seenCount;
        }

        /** The last day that has to be reached for what is known; NONE: no day has to be. */
        int lastKnown(int k) {
            int last = NONE;
            for (int s = 0; s < k && s < seenCount; s++) {
                last = Math.max(last, seenDay[s]);
            }
            return last;
        }

        int fitOf(int k, int i) {
            int found = 0;
            for (int w = 0; w < press.script.worldCount; w++) {
                if (isFit(w, k)) {
                    if (found == i) {
                        return w;
                    }
                    found++;
                }
            }
            return i == NONE ? found : NONE;
        }

        int sureFacts(int k) {
            Script script = press.script;
            int first = NONE;
            int bits = 0;
            for (int w = 0; w < script.worldCount; w++) {
                if (isFit(w, k)) {
                    if (first < 0) {
                        first = w;
                        bits = (1 << script.facts) - 1;
                    }
                    bits &= ~unlikeBits(first, w);
                }
            }
            return bits;
        }

        int tellsMost(int k, int n, int what) {
            int best = NOT;
            int fewest = 0;
            for (int p = 0; p < press.script.pages; p++) {
                int most = mostAlike(k, n, p);
                if (most > 0 && (best < 0 || most < fewest)) {
                    best = p;
                    fewest = most;
                }
            }
            return best < 0 || what == 0 ? best : fewest;
        }

        int twinOf(int n, int what) {
            int count = press.script.worldCount;
            marks = roomFor(marks, SHADINGS_MOST);
            Arrays.fill(marks, NONE);
            for (int w = 0; w < count; w++) {
                int like = shades[n * count + w];
                if (marks[like] >= 0) {
                    return what == 0 ? marks[like] : w;
                }
                marks[like] = w;
            }
            return NOT;
        }

        int fewestPages(int n) {
            int pages = press.script.pages;
            marks = roomFor(marks, SHADINGS_MOST);
            Arrays.fill(marks, NONE);
            for (int size = 0; size <= pages; size++) {
                for (int set = 0; set < 1 << pages; set++) {
                    if (Integer.bitCount(set) == size && press.script.worldCount <= FIVES[size] && partsAll(set, n)) {
                        return set;
                    }
                }
            }
            return NOT;
        }

        /** The set itself is the mark: each set is tried once, so the marks need not be wiped between. */
        private boolean partsAll(int set, int n) {
            int count = press.script.worldCount;
            for (int w = 0; w < count; w++) {
                int rest = shades[n * count + w];
                int like = 0;
                for (int p = 0; set >> p != 0 && p < PAGES_MOST; p++) {
                    if ((set >> p & 1) == 1) {
                        like += rest % SHADE_COUNT * FIVES[p];
                    }
                    rest /= SHADE_COUNT;
                }
                if (marks[like] == set) {
                    return false;
                }
                marks[like] = set;
            }
            return true;
        }

        private int mostAlike(int k, int n, int page) {
            int count = press.script.worldCount;
            Arrays.fill(parted, 0);
            for (int w = 0; w < count; w++) {
                if (isFit(w, k)) {
                    parted[shadeIn(shades[n * count + w], page)]++;
                }
            }
            int most = 0;
            for (int s = 0; s < SHADE_COUNT; s++) {
                most = Math.max(most, parted[s]);
            }
            return most;
        }

        private int unlikeBits(int world, int other) {
            Script script = press.script;
            int bits = 0;
            for (int f = 0; f < script.facts; f++) {
                if (script.factIn(world, f) != script.factIn(other, f)) {
                    bits |= 1 << f;
                }
            }
            return bits;
        }

        private boolean isFit(int world, int k) {
            int count = press.script.worldCount;
            for (int s = 0; s < k; s++) {
                if (shadeIn(shades[seenDay[s] * count + world], seenPage[s]) != seenShade[s]) {
                    return false;
                }
            }
            return true;
        }

        /** Has to come ahead of all questions about what is behind n days. */
        void reach(int n) {
            Script script = press.script;
            int count = script.worldCount;
            if (reached < 0 && n >= 0) {
                worlds = roomFor(worlds, count);
                shades = roomFor(shades, (BEGUN_MOST + 1) * count);
            }
            for (int d = reached + 1; d <= n && d <= BEGUN_MOST; d++) {
                if (d == 1 || !script.steady) {
                    forgetDays();
                }
                for (int w = 0; w < count; w++) {
                    if (d == 0) {
                        press.begin(row, w);
                        worlds[w] = w;
                        shades[w] = shadesOf(row);
                    } else {
                        int then = dayFrom(worlds[w] * SHADINGS_MOST + shades[(d - 1) * count + w], d - 1);
                        worlds[w] = then / SHADINGS_MOST;
                        shades[d * count + w] = then % SHADINGS_MOST;
                    }
                }
                reached = d;
            }
        }

        private void forgetDays() {
            if (from.length < KEPT_DAYS) {
                from = new int[KEPT_DAYS];
                into = new int[KEPT_DAYS];
            }
            Arrays.fill(from, NONE);
        }

        /** World and shades as one number. Worlds run together, so most days went by already from another one. */
        private int dayFrom(int state, int day) {
            int kept = state % KEPT_DAYS;
            if (from[kept] != state) {
                press.script.putFacts(row, state / SHADINGS_MOST);
                putShades(row, state % SHADINGS_MOST);
                row[DAY] = day;
                press.oneDay(row, press.script.seed);
                from[kept] = state;
                into[kept] = press.script.worldOf(row) * SHADINGS_MOST + shadesOf(row);
            }
            return into[kept];
        }
    }

    /** Reads a tape into a script, and finds the fault that counts. */
    private static final class Reader {
        int faultPlace;
        private int fault;
        private int softFault;
        private int softPlace;
        private int tokens;
        private int at;
        private int pageNow;
        private int waitCount;
        private Script into;
        private final long[] words = new long[WORD_COUNT];
        private final int[] kinds = new int[TOKENS_MOST + 2];
        private final int[] places = new int[TOKENS_MOST + 2];
        private final long[] values = new long[TOKENS_MOST + 2];
        private final int[] waiting = new int[STACK_MOST];
        private final long[] factNames = new long[FACTS_MOST];
        private final long[] pageNames = new long[PAGES_MOST];

        Reader() {
            int word = 0;
            for (int i = 0; i < WORDS.length() && word < WORD_COUNT; i++) {
                char letter = WORDS.charAt(i);
                if (letter == ' ') {
                    word++;
                } else {
                    words[word] = withLetter(words[word], letter);
                }
            }
        }

        /** Finds faults of the form, for which it stops, and on its way the first of those that wait for it. */
        void tellAll(Script script) {
            into = script;
            script.clear();
            fault = 0;
            faultPlace = NONE;
            softFault = 0;
            softPlace = NONE;
            at = 0;
            for (int n = 0; n <= TOKENS_MOST && fault == 0 && kinds[at] != TEXT_END; n++) {
                switch (kinds[at]) {
                    case W_FACT:
                        tellFact();
                        break;
                    case W_GOES:
                        tellGoes();
                        break;
                    case W_PAGE:
                        tellPage();
                        break;
                    case W_SLIPS:
                        tellSlips();
                        break;
                    case W_SEED:
                        tellSeed();
                        break;
                    default:
                        blame(SYNTAX);
                        break;
                }
            }
        }

        /** The number of the fault that counts, or 0: then all of the script is as told. */
        int judge() {
            if (fault == 0 && softFault != 0) {
                fault = softFault;
                faultPlace = softPlace;
            }
            if (fault == 0) {
                resolve();
            }
            if (fault == 0) {
                findLoose();
                into.steady = into.slips == 0 && !looksAtDay();
            }
            return fault;
        }

        /** One token more than may be, or the first that is none, is the last one cut: there is a fault at it. */
        void cut(byte[] tape, int length) {
            tokens = 0;
            int end = 0;
            boolean more = true;
            for (int i = 0; i < length && more; i++) {
                if (i >= end && !isBlank(tape[i])) {
                    places[tokens] = i;
                    end = cutOne(tape, i, length);
                    more = kinds[tokens] != NO_TOKEN && tokens < TOKENS_MOST;
                    tokens++;
                }
            }
            kinds[tokens] = TEXT_END;
            places[tokens] = length;
        }

        private int cutOne(byte[] tape, int from, int length) {
            int i = from;
            long value = 0;
            if (isLetter(tape[from])) {
                for (; i < length && isLetter(tape[i]); i++) {
                    value = i - from < NAME_LENGTH_MOST ? withLetter(value, tape[i]) : 0;
                }
                kinds[tokens] = i - from > NAME_LENGTH_MOST ? NO_TOKEN : kindOfName(value);
            } else if (isDigit(tape[from])) {
                for (; i < length && isDigit(tape[i]); i++) {
                    value = i - from < INT_LENGTH_MOST ? value * 10 + tape[i] - '0' : 0;
                }
                kinds[tokens] = i - from > INT_LENGTH_MOST ? NO_TOKEN : INT;
            } else {
                i = from + 1;
                kinds[tokens] = isSign(tape[from]) ? tape[from] : NO_TOKEN;
            }
            values[tokens] = value;
            return i;
        }

        private int kindOfName(long name) {
            for (int w = 0; w < WORD_COUNT; w++) {
                if (words[w] == name) {
                    return WORD_BASE + w;
                }
            }
            return NAME;
        }

        private void tellFact() {
            int fact = into.facts;
            if (fact >= FACTS_MOST) {
                blame(ROOM);
                return;
            }
            take(W_FACT);
            int name = at;
            take(NAME);
            int most = at;
            take(INT);
            int first = at;
            take(INT);
            int whose = kinds[at];
            if (whose == W_MINE || whose == W_YOURS) {
                take(whose);
            }
            take(';');
            if (fault != 0) {
                return;
            }
            judgeFact(name, most, first);
            factNames[fact] = values[name];
            into.most[fact] = (int) Math.max(1, Math.min(FACT_MOST, values[most]));
            into.told[fact] = (int) values[first];
            into.counts[fact] = into.worldCount;
            into.worldCount = Math.min(WORLDS_MOST, into.worldCount * (into.most[fact] + 1));
            into.mine |= whose == W_MINE ? 1 << fact : 0;
            into.yours |= whose == W_YOURS ? 1 << fact : 0;
            into.facts++;
        }

        private void judgeFact(int name, int most, int first) {
            if (isTold(values[name])) {
                blameSoftly(TWICE, name);
            }
            if (values[most] < 1 || values[most] > FACT_MOST) {
                blameSoftly(WRONG, most);
            }
            if (into.worldCount * (values[most] + 1) > WORLDS_MOST) {
                blameSoftly(MANY, most);
            }
            if (values[first] > values[most]) {
                blameSoftly(WRONG, first);
            }
        }

        private void tellGoes() {
            take(W_GOES);
            int name = at;
            if (take(NAME)) {
                int fact = factNamed(values[name]);
                if (fact < 0) {
                    blameSoftly(NAME_FAULT, name);
                } else {
                    into.law[fact] = into.length;
                }
            }
            tellLaw();
            take(';');
        }

        private void tellLaw() {
            take('=');
            for (int ifs = 0; ifs <= IFS_MOST && fault == 0 && kinds[at] == W_IF; ifs++) {
                if (ifs == IFS_MOST) {
                    blame(ROOM);
                }
                take(W_IF);
                expression(true);
                take('<');
                expression(true);
                take(W_THEN);
                put(LESS, 0);
                int skip = into.length;
                put(SKIP, 0);
                expression(true);
                put(END, 0);
                take(W_ELSE);
                if (skip < CODE_MOST) {
                    into.code[skip] = into.length << OP_BITS | SKIP;
                }
            }
            expression(true);
            put(END, 0);
        }

        private void tellPage() {
            pageNow = into.pages;
            if (pageNow >= PAGES_MOST) {
                blame(ROOM);
                return;
            }
            take(W_PAGE);
            int name = at;
            if (take(NAME)) {
                if (isTold(values[name])) {
                    blameSoftly(TWICE, name);
                }
                pageNames[pageNow] = values[name];
                into.pages++;
            }
            tellShading();
            tellClaim();
            for (int n = 0; n < CLAIMS_MOST && fault == 0 && kinds[at] == W_AND; n++) {
                if (into.claimCount[pageNow] >= CLAIMS_MOST) {
                    blame(ROOM);
                }
                take(W_AND);
                tellClaim();
            }
            take(';');
        }

        private void tellShading() {
            int kind = kinds[at];
            into.shading[pageNow] = kind == W_ALL ? ALL : kind == W_SOME ? SOME : PART;
            if (kind == W_ALL || kind == W_SOME || kind == W_PART) {
                take(kind);
            } else {
                blame(SYNTAX);
            }
        }

        private void tellClaim() {
            if (fault != 0) {
                return;
            }
            into.claim[pageNow * CLAIMS_MOST + into.claimCount[pageNow]] = into.length;
            into.claimCount[pageNow]++;
            expression(false);
            int sign = kinds[at];
            if (sign == '<' || sign == '=' || sign == '>') {
                take(sign);
            } else {
                blame(SYNTAX);
            }
            expression(false);
            put(sign == '<' ? LESS : sign == '=' ? SAME : MORE, 0);
            put(END, 0);
        }

        private void tellSlips() {
            take(W_SLIPS);
            int number = at;
            take(INT);
            take(';');
            if (fault == 0) {
                into.slips = (int) values[number];
                if (into.slips > SLIPS_MOST) {
                    blameSoftly(WRONG, number);
                }
            }
        }

        private void tellSeed() {
            take(W_SEED);
            int number = at;
            take(INT);
            take(';');
            if (fault == 0) {
                into.seed = (int) values[number];
            }
        }

        /** Operators wait until all that binds closer is put; a '(' waits for its ')'. */
        private void expression(boolean law) {
            int nested = 0;
            boolean unitDue = true;
            waitCount = 0;
            for (int n = 0; n <= TOKENS_MOST && fault == 0; n++) {
                int kind = kinds[at];
                if (unitDue && kind == '(') {
                    if (nested >= NESTED_MOST) {
                        blame(ROOM);
                    }
                    nested++;
                    letWait(kind);
                } else if (unitDue) {
                    unit(kind, law);
                    unitDue = false;
                } else if (closeness(kind) > 0) {
                    putWaiting(closeness(kind));
                    letWait(kind);
                    unitDue = true;
                } else if (kind == ')' && nested > 0) {
                    putWaiting(1);
                    nested--;
                    waitCount = Math.max(0, waitCount - 1);
                } else {
                    if (nested > 0) {
                        blame(SYNTAX);
                    }
                    putWaiting(1);
                    return;
                }
                take(kind);
            }
        }

        private void unit(int kind, boolean law) {
            if (kind == INT) {
                put(NUM, (int) values[at]);
            } else if (kind == NAME) {
                put(NAMED, at);
            } else if (kind == W_DAY) {
                put(VAR, DAY);
            } else if (kind == W_THIS) {
                put(VAR, SHADES + pageNow);
                if (law) {
                    blameSoftly(THIS_FAULT, at);
                }
            } else {
                blame(SYNTAX);
            }
        }

        private void letWait(int kind) {
            if (waitCount < waiting.length) {
                waiting[waitCount] = kind;
                waitCount++;
            }
        }

        private void putWaiting(int close) {
            for (; waitCount > 0 && closeness(waiting[waitCount - 1]) >= close; waitCount--) {
                int kind = waiting[waitCount - 1];
                put(kind == '+' ? ADD : kind == '-' ? SUB : kind == '*' ? MUL : DIV, 0);
            }
        }

        private static int closeness(int kind) {
            if (kind == '*' || kind == '/') {
                return 2;
            }
            return kind == '+' || kind == '-' ? 1 : 0;
        }

        /** Names in claims and laws may be told behind them, so what they mean waits for the text's end. */
        private void resolve() {
            for (int i = 0; i < into.length && fault == 0; i++) {
                if ((into.code[i] & OP_MASK) == NAMED) {
                    int token = into.code[i] >> OP_BITS;
                    int fact = factNamed(values[token]);
                    int page = pageNamed(values[token]);
                    if (fact < 0 && page < 0) {
                        fault = UNKNOWN;
                        faultPlace = places[token];
                    }
                    into.code[i] = (fact >= 0 ? fact : SHADES + page) << OP_BITS | VAR;
                }
            }
        }

        private void findLoose() {
            for (int p = 0; p < into.pages; p++) {
                for (int c = 0; c < into.claimCount[p]; c++) {
                    if (looksAtShades(into.claim[p * CLAIMS_MOST + c])) {
                        into.loose[p] |= 1 << c;
                    }
                }
            }
        }

        private boolean looksAtShades(int from) {
            for (int i = from; i >= 0 && i < into.length && into.code[i] != END; i++) {
                int with = into.code[i] >> OP_BITS;
                if ((into.code[i] & OP_MASK) == VAR && with >= SHADES && with < DAY) {
                    return true;
                }
            }
            return false;
        }

        private boolean looksAtDay() {
            for (int i = 0; i < into.length; i++) {
                if (into.code[i] == (DAY << OP_BITS | VAR)) {
                    return true;
                }
            }
            return false;
        }

        private boolean take(int kind) {
            if (fault == 0 && kinds[at] != kind) {
                blame(SYNTAX);
            }
            if (fault == 0 && at >= TOKENS_MOST) {
                blame(ROOM);
            }
            if (fault != 0) {
                return false;
            }
            at++;
            return true;
        }

        private void put(int op, int with) {
            if (into.length < CODE_MOST) {
                into.code[into.length] = with << OP_BITS | op;
                into.length++;
            }
        }

        private void blame(int number) {
            if (fault == 0) {
                fault = number;
                faultPlace = places[at];
            }
        }

        /** These count only in a text whose form is whole, so reading goes on. */
        private void blameSoftly(int number, int token) {
            if (softFault == 0) {
                softFault = number;
                softPlace = places[token];
            }
        }

        private boolean isTold(long name) {
            return factNamed(name) >= 0 || pageNamed(name) >= 0;
        }

        private int factNamed(long name) {
            for (int f = 0; f < into.facts; f++) {
                if (factNames[f] == name) {
                    return f;
                }
            }
            return NONE;
        }

        private int pageNamed(long name) {
            for (int p = 0; p < into.pages; p++) {
                if (pageNames[p] == name) {
                    return p;
                }
            }
            return NONE;
        }

        private static long withLetter(long name, int letter) {
            return name << 5 | letter - 'a' + 1;
        }

        private static boolean isBlank(int c) {
            return c == 9 || c == 10 || c == 13 || c == 32;
        }

        private static boolean isLetter(int c) {
            return c >= 'a' && c <= 'z';
        }

        private static boolean isDigit(int c) {
            return c >= '0' && c <= '9';
        }

        private static boolean isSign(int c) {
            return c > 0 && SIGNS.indexOf((char) c) >= 0;
        }
    }
}
