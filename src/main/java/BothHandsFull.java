/**
 * Both hands full before a locked door: what may lie where, what moving it costs,
 * and how the key gets into a hand while enough hands are free.
 * The words in capitals are those of the document.
 */
public final class BothHandsFull {
    public static final int NONE = -1, BAD = -2, STATE = -3, FULL = -4;
    public static final long NO = -4611686018427387904L;

    private static final int NOTHING = -11, OUTSIDE = -12, UNLIKE = -13, BELOW = -14;
    private static final int NO_SUCH = -100;

    private static final int HOLDS_MOST = 5, THINGS_MOST = 5, TEXTS_MOST = 6, SHEETS = 4;
    private static final int TAPE_MOST = 160, CELLS_MOST = 40;
    private static final int KINDS = 6, SORTS = 3, NUMBER_MOST = 9, SIZE_MOST = 9, FREE_MOST = 3;
    private static final int COSTS_BOUND = 99, BELL_BOUND = 9999, WORTH_BOUND = 999;
    private static final int ROWS_LONGEST = 8, DRAWN_MOST = 40, SEEDS_MOST = 20;

    private static final int HAND = 1, SILL = 2, KNEE = 3, NAIL = 4, STEP = 5;
    // By KIND: HOLD, HAND, SILL, KNEE, NAIL, STEP.
    private static final int[] UNDER = {-1, 0, 0, 1, 2, 2};
    private static final int[] MOST = {5, 3, 5, 1, 1, 5};
    private static final int[] WET = {0, 0, 0, 0, 0, 1};
    private static final int[] OPENS = {0, 1, 0, 0, 0, 0};

    private static final String FIRST_TEXT = "costs size ; bell 20 ; worth 10 ;";
    private static final int COSTS = 0, BELL = 1, WORTH = 2;

    private final Lot now = new Lot();
    private final Lot kept = new Lot();
    private final Lot thought = new Lot();
    private final Search search = new Search();
    private final Tape tape = new Tape();
    private final Text[] texts = new Text[TEXTS_MOST];
    private final Sheet[] sheets = new Sheet[SHEETS];
    private final int[] names = new int[Text.NAMES];
    private int textCount;
    private boolean hasImage;

    public BothHandsFull() {
        for (int i = 0; i < TEXTS_MOST; i++) {
            texts[i] = new Text();
        }
        for (int i = 0; i < SHEETS; i++) {
            sheets[i] = new Sheet();
        }
        for (int i = 0; i < FIRST_TEXT.length(); i++) {
            tape.add(FIRST_TEXT.charAt(i));
        }
        tape.read(texts[0]);
        tape.clear();
        textCount = 1;
    }

    // ---- holds, things

    public int hold(int kind, int number) {
        if (!within(kind, KINDS) || !within(number, NUMBER_MOST + 1)) {
            return BAD;
        }
        if (now.holds >= HOLDS_MOST) {
            return FULL;
        }
        now.kind[now.holds] = kind;
        now.renumber(now.holds, number);
        return now.holds++;
    }

    public int thing(int what, int hold) {
        int size = what / 10;
        int dry = what % 10;
        if (size < 1 || size > SIZE_MOST || !within(dry, 2) || !now.hasHold(hold)) {
            return BAD;
        }
        if (now.things >= THINGS_MOST) {
            return FULL;
        }
        // What stands behind the last THING counts for nothing until it is counted.
        int t = now.things;
        now.size[t] = size;
        now.dry[t] = dry;
        now.apart[t] = 0;
        now.lies[t] = NONE;
        if (now.refusal(t, hold) != 0) {
            return STATE;
        }
        now.lies[t] = hold;
        now.things++;
        return t;
    }

    public int set(int what, int of, int v) {
        switch (what) {
            case 0:
                return setFree(v);
            case 1:
                return setKey(v);
            case 2:
                return setNumber(of, v);
            case 3:
                return setDry(of, v);
            default:
                return NO_SUCH;
        }
    }

    private int setFree(int v) {
        if (!within(v, FREE_MOST + 1)) {
            return NO_SUCH;
        }
        int was = now.free;
        now.free = v;
        return was;
    }

    private int setKey(int v) {
        if (v != NONE && !now.hasThing(v)) {
            return NO_SUCH;
        }
        int was = now.key;
        now.key = v;
        return was;
    }

    private int setNumber(int h, int v) {
        if (!now.hasHold(h) || !within(v, NUMBER_MOST + 1)) {
            return NO_SUCH;
        }
        int was = now.number[h];
        now.renumber(h, v);
        if (now.left(h) < 0) {
            now.renumber(h, was);
            return STATE;
        }
        return was;
    }

    private int setDry(int t, int v) {
        if (!now.hasThing(t) || !within(v, 2)) {
            return NO_SUCH;
        }
        if (v == 1 && now.wet(now.lies[t]) == 1) {
            return STATE;
        }
        int was = now.dry[t];
        now.dry[t] = v;
        return was;
    }

    public int part(int thing, int other, int is) {
        if (!now.hasThing(thing) || !now.hasThing(other) || thing == other || !within(is, 2)) {
            return BAD;
        }
        if (is == 1 && now.lies[thing] == now.lies[other]) {
            return STATE;
        }
        int was = now.apart[thing] >> other & 1;
        now.apart[thing] = withBit(now.apart[thing], other, is);
        now.apart[other] = withBit(now.apart[other], thing, is);
        return was;
    }

    public int told(int of, int what) {
        if (what >= 0 && what <= 7 && now.hasHold(of)) {
            return toldOfHold(of, what);
        }
        if (what >= 8 && what <= 11 && now.hasThing(of)) {
            return toldOfThing(of, what);
        }
        return NO_SUCH;
    }

    private int toldOfHold(int h, int what) {
        switch (what) {
            case 0:
                return now.kind[h];
            case 1:
                return now.number[h];
            case 2:
                return now.room[h];
            case 3:
                return MOST[now.kind[h]];
            case 4:
                return now.wet(h);
            case 5:
                return OPENS[now.kind[h]];
            case 6:
                return now.lying(h);
            default:
                return now.left(h);
        }
    }

    private int toldOfThing(int t, int what) {
        switch (what) {
            case 8:
                return now.size[t];
            case 9:
                return now.dry[t];
            case 10:
                return now.lies[t];
            default:
                return now.apart[t];
        }
    }

    // ---- texts

    public int feed(int letter) {
        if (!within(letter, 256)) {
            return BAD;
        }
        if (tape.size >= TAPE_MOST) {
            return FULL;
        }
        tape.add(letter);
        return tape.size;
    }

    public int text() {
        if (textCount >= TEXTS_MOST) {
            return FULL;
        }
        int fault = tape.read(texts[textCount]);
        tape.clear();
        if (fault != NONE) {
            return NO_SUCH - fault;
        }
        return textCount++;
    }

    public int force(int text) {
        if (!within(text, textCount)) {
            return BAD;
        }
        int was = now.rule;
        now.rule = text;
        return was;
    }

    // ---- moves

    public int move(int thing, int hold) {
        if (!now.hasThing(thing) || !now.hasHold(hold)) {
            return BAD;
        }
        if (now.refusal(thing, hold) != 0) {
            return STATE;
        }
        int cost = costs(thing, now.lies[thing], hold);
        now.lies[thing] = hold;
        return cost;
    }

    public int why(int thing, int hold) {
        if (!now.hasThing(thing) || !now.hasHold(hold)) {
            return BAD;
        }
        return now.refusal(thing, hold);
    }

    public int open(int what) {
        switch (what) {
            case 0:
                return now.isOpen() ? 1 : 0;
            case 1:
                return now.freeHands();
            case 2:
                return now.movesThatCanBe();
            default:
                return BAD;
        }
    }

    public int asks(int part, int thing, int hold) {
        if (part == COSTS && now.hasThing(thing) && now.hasHold(hold)) {
            return costs(thing, now.lies[thing], hold);
        }
        if (part == BELL) {
            return bell();
        }
        if (part == WORTH && now.hasThing(thing)) {
            return worth(thing);
        }
        return NONE;
    }

    private int costs(int thing, int from, int to) {
        name(now.size[thing], from, to, thing, now.wet(to));
        return bounded(texts[now.rule].tells(COSTS, names), COSTS_BOUND);
    }

    private int bell() {
        name(0, 0, 0, 0, 0);
        return bounded(texts[now.rule].tells(BELL, names), BELL_BOUND);
    }

    private int worth(int thing) {
        name(now.size[thing], now.lies[thing], 0, thing, 0);
        return bounded(texts[now.rule].tells(WORTH, names), WORTH_BOUND);
    }

    private void name(int size, int from, int to, int thing, int wet) {
        names[0] = size;
        names[1] = from;
        names[2] = to;
        names[3] = thing;
        names[4] = now.things;
        names[5] = wet;
    }

    // ---- how best

    public int best(int what) {
        switch (what) {
            case 0:
                return fewest(false);
            case 1:
                fewest(false);
                return search.firstBest();
            case 2:
                countCosts();
                return leastIf(NONE, NONE);
            case 3:
                countCosts();
                leastIf(NONE, NONE);
                return search.firstBest();
            case 4:
                think(NONE, NONE);
                return search.flood();
            case 5:
                fewest(true);
                return search.farthest();
            default:
                return NO_SUCH;
        }
    }

    public int pack(int thing, int what) {
        if (!now.hasThing(thing) || !within(what, 2)) {
            return BAD;
        }
        fewest(true);
        int hold = NONE;
        int fewest = NONE;
        for (int h = 0; h < now.holds; h++) {
            int far = search.farWith(thing, h);
            if (isLess(far, fewest)) {
                hold = h;
                fewest = far;
            }
        }
        return what == 0 ? hold : fewest;
    }

    public int ring(int what) {
        if (!within(what, 2)) {
            return BAD;
        }
        countCosts();
        int least = leastIf(NONE, NONE);
        int bell = bell();
        boolean rings = isLess(bell, least);
        if (what == 0) {
            return rings ? 1 : 0;
        }
        return rings ? bell : least;
    }

    public int leave() {
        countCosts();
        int together = leastIf(NONE, NONE);
        int left = NONE;
        for (int t = 0; t < now.things; t++) {
            int least = t == now.key ? NONE : leastIf(t, NONE);
            if (least != NONE && isLess(least + worth(t), together)) {
                left = t;
                together = least + worth(t);
            }
        }
        return left;
    }

    public int roomy(int what) {
        if (!within(what, 2)) {
            return BAD;
        }
        countCosts();
        int least = leastIf(NONE, NONE);
        int hold = NONE;
        for (int h = 0; h < now.holds; h++) {
            int then = leastIf(NONE, h);
            if (isLess(then, least)) {
                hold = h;
                least = then;
            }
        }
        if (hold == NONE) {
            return NONE;
        }
        return what == 0 ? hold : least;
    }

    /** FEWEST of now; by all, of all STATES too. */
    private int fewest(boolean all) {
        think(NONE, NONE);
        search.countMoves();
        return search.spreadFromOpen(all);
    }

    private void countCosts() {
        for (int t = 0; t < now.things; t++) {
            for (int from = 0; from < now.holds; from++) {
                for (int to = 0; to < now.holds; to++) {
                    search.price(t, from, to, costs(t, from, to));
                }
            }
        }
    }

    /** LEAST, were one THING nowhere, or had one HOLD 1 ROOM more; countCosts() goes ahead. */
    private int leastIf(int gone, int wider) {
        think(gone, wider);
        return search.spreadFromOpen(false);
    }

    private void think(int gone, int wider) {
        thought.become(now);
        thought.gone = gone;
        if (wider != NONE) {
            thought.room[wider]++;
        }
        search.look(thought);
    }

    /** Whether a comes ahead of b, where NONE is more than any. */
    private static boolean isLess(int a, int b) {
        return a != NONE && (b == NONE || a < b);
    }

    // ---- told moves

    public int judge(int sheet, int what) {
        if (!within(sheet, SHEETS) || !within(what, 3)) {
            return BAD;
        }
        Sheet row = sheets[sheet];
        if (row.isMissing()) {
            return NOTHING;
        }
        thought.become(now);
        int cost = 0;
        int i = 0;
        while (i < row.size && canBe(row.cells[i])) {
            int t = row.cells[i] / 10;
            int h = row.cells[i] % 10;
            cost += costs(t, thought.lies[t], h);
            thought.lies[t] = h;
            i++;
        }
        if (what == 0) {
            return i < row.size ? i : NONE;
        }
        if (what == 1) {
            return cost;
        }
        return thought.isOpen() ? 1 : 0;
    }

    private boolean canBe(int told) {
        int t = told / 10;
        int h = told % 10;
        return told >= 0 && thought.hasThing(t) && thought.hasHold(h) && thought.refusal(t, h) == 0;
    }

    public long ways(int sheet, int n) {
        if (!within(sheet, SHEETS) || !within(n, ROWS_LONGEST + 1)) {
            return NO;
        }
        Sheet row = sheets[sheet];
        if (row.isMissing() || row.size != now.things) {
            return NO;
        }
        think(NONE, NONE);
        return search.rowsTo(search.stateOf(row.cells), n);
    }

    public int soonest(int sheet) {
        if (!within(sheet, SHEETS)) {
            return BAD;
        }
        Sheet row = sheets[sheet];
        if (row.isMissing()) {
            return NOTHING;
        }
        if (row.size != now.things) {
            return BAD;
        }
        think(NONE, NONE);
        search.countMoves();
        int n = search.spreadFrom(search.stateOf(row.cells));
        return n <= ROWS_LONGEST ? n : NONE;
    }

    public int drawn(int seed, int n) {
        if (n < 1 || n > DRAWN_MOST) {
            return BAD;
        }
        return openBehind(seed, n);
    }

    public long chance(int seed, int n, int part) {
        if (n < 1 || n > SEEDS_MOST || !within(part, 2)) {
            return NO;
        }
        int hits = 0;
        for (int i = 0; i < n; i++) {
            if (openBehind(seed + i, DRAWN_MOST) != NONE) {
                hits++;
            }
        }
        int common = commonPart(hits, n);
        return (part == 0 ? hits : n) / common;
    }

    private int openBehind(int seed, int n) {
        thought.become(now);
        int z = seed;
        for (int i = 0; i <= n; i++) {
            if (thought.isOpen()) {
                return i;
            }
            z = z * 1103515245 + 12345;
            drawOnce(z);
        }
        return NONE;
    }

    private void drawOnce(int z) {
        if (thought.things < 1 || thought.holds < 1) {
            return;
        }
        int t = (z >>> 9) % thought.things;
        int h = (z >>> 17) % thought.holds;
        if (thought.refusal(t, h) == 0) {
            thought.lies[t] = h;
        }
    }

    /** The greatest number that divides both; n itself, if a is 0. */
    private static int commonPart(int a, int n) {
        for (int d = n; d > 1; d--) {
            if (a % d == 0 && n % d == 0) {
                return d;
            }
        }
        return 1;
    }

    public int image() {
        kept.become(now);
        hasImage = true;
        return kept.things;
    }

    public int back() {
        if (!hasImage) {
            return STATE;
        }
        now.become(kept);
        return now.things;
    }

    public int count(int what) {
        switch (what) {
            case 0:
                return now.holds;
            case 1:
                return now.things;
            case 2:
                return now.free;
            case 3:
                return now.key;
            case 4:
                return textCount;
            case 5:
                return tape.size;
            case 6:
                return now.rule;
            default:
                return BAD;
        }
    }

    // ---- the host

    public int sheet(int sheet, int sort, int n) {
        if (!within(sheet, SHEETS) || sort < NONE || sort >= SORTS) {
            return BAD;
        }
        if (sort == NONE) {
            sheets[sheet].become(NONE, 0);
            return 1;
        }
        if (n > CELLS_MOST) {
            return BAD;
        }
        if (n < 0) {
            return BELOW;
        }
        sheets[sheet].become(sort, n);
        return 1;
    }

    public int cell(int sheet, int i, int v) {
        if (!within(sheet, SHEETS)) {
            return BAD;
        }
        Sheet row = sheets[sheet];
        if (row.isMissing()) {
            return NOTHING;
        }
        if (!within(i, row.size)) {
            return OUTSIDE;
        }
        row.put(i, v);
        return 1;
    }

    public int copy(int sheet, int i, int other, int j, int n) {
        if (!within(sheet, SHEETS) || !within(other, SHEETS)) {
            return BAD;
        }
        Sheet from = sheets[sheet];
        Sheet to = sheets[other];
        if (from.isMissing() || to.isMissing()) {
            return NOTHING;
        }
        if (from.sort != to.sort) {
            return UNLIKE;
        }
        if (!from.hasPart(i, n) || !to.hasPart(j, n)) {
            return OUTSIDE;
        }
        System.arraycopy(from.cells, i, to.cells, j, n);
        return n;
    }

    public int things(int sheet, int sort, int from, int n) {
        if (!within(sheet, SHEETS) || !within(sort, SORTS) || n < 0 || n > THINGS_MOST) {
            return BAD;
        }
        Sheet row = sheets[sheet];
        if (row.isMissing()) {
            return NOTHING;
        }
        if (row.sort != sort) {
            return UNLIKE;
        }
        int came = 0;
        for (int k = 0; k < n; k++) {
            // The part is looked at from its beginning, so that no place can wrap.
            if (!row.hasPart(from, 2 * k + 2)) {
                return OUTSIDE;
            }
            if (thing(row.cells[from + 2 * k], row.cells[from + 2 * k + 1]) >= 0) {
                came++;
            }
        }
        return came;
    }

    public int taken(int hold, int k) {
        if (!within(k, KINDS)) {
            return BAD;
        }
        if (!now.hasHold(hold)) {
            return NOTHING;
        }
        int kind = now.kind[hold];
        for (int i = 0; i < KINDS && kind != NONE; i++) {
            if (kind == k) {
                return now.number[hold];
            }
            kind = UNDER[kind];
        }
        return UNLIKE;
    }

    private static boolean within(int v, int end) {
        return v >= 0 && v < end;
    }

    private static int bounded(int v, int bound) {
        return Math.max(0, Math.min(v, bound));
    }

    private static int withBit(int bits, int i, int is) {
        return is == 1 ? bits | 1 << i : bits & ~(1 << i);
    }

    private static int roomOf(int kind, int number) {
        int plain = number + 6;
        int hand = plain - 3;
        switch (kind) {
            case HAND:
                return hand;
            case SILL:
            case STEP:
                return 2 * plain;
            case KNEE:
                return hand / 2;
            case NAIL:
                return number + 1;
            default:
                return plain;
        }
    }

    /** Which HOLDS and THINGS there are and what lies where: now, in THE IMAGE, or in thought. */
    private static final class Lot {
        final int[] kind = new int[HOLDS_MOST];
        final int[] number = new int[HOLDS_MOST];
        final int[] room = new int[HOLDS_MOST];
        final int[] size = new int[THINGS_MOST];
        final int[] dry = new int[THINGS_MOST];
        final int[] apart = new int[THINGS_MOST];
        final int[] lies = new int[THINGS_MOST];
        int holds;
        int things;
        int key = NONE;
        int free = 1;
        int rule;
        /** Only in thought: the THING that is nowhere. */
        int gone = NONE;

        void become(Lot other) {
            System.arraycopy(other.kind, 0, kind, 0, HOLDS_MOST);
            System.arraycopy(other.number, 0, number, 0, HOLDS_MOST);
            System.arraycopy(other.room, 0, room, 0, HOLDS_MOST);
            System.arraycopy(other.size, 0, size, 0, THINGS_MOST);
            System.arraycopy(other.dry, 0, dry, 0, THINGS_MOST);
            System.arraycopy(other.apart, 0, apart, 0, THINGS_MOST);
            System.arraycopy(other.lies, 0, lies, 0, THINGS_MOST);
            holds = other.holds;
            things = other.things;
            key = other.key;
            free = other.free;
            rule = other.rule;
            gone = NONE;
        }

        boolean hasHold(int h) {
            return within(h, holds);
        }

        boolean hasThing(int t) {
            return within(t, things);
        }

        int wet(int h) {
            return WET[kind[h]];
        }

        void renumber(int h, int v) {
            number[h] = v;
            room[h] = roomOf(kind[h], v);
        }

        int lying(int h) {
            int bits = 0;
            for (int t = 0; t < things; t++) {
                if (lies[t] == h) {
                    bits |= 1 << t;
                }
            }
            return bits;
        }

        /** How much ROOM is left. */
        int left(int h) {
            int left = room[h];
            for (int t = 0; t < things; t++) {
                if (lies[t] == h) {
                    left -= size[t];
                }
            }
            return left;
        }

        /** Why a THING can't go to a HOLD, as of why(). */
        int refusal(int t, int h) {
            if (lies[t] == h) {
                return 1;
            }
            int together = size[t];
            int many = 1;
            int there = 0;
            for (int i = 0; i < things; i++) {
                if (lies[i] == h) {
                    together += size[i];
                    many++;
                    there |= 1 << i;
                }
            }
            if (together > room[h]) {
                return 2;
            }
            if (many > MOST[kind[h]]) {
                return 3;
            }
            if (dry[t] == 1 && WET[kind[h]] == 1) {
                return 4;
            }
            return (apart[t] & there) != 0 ? 5 : 0;
        }

        int movesThatCanBe() {
            int many = 0;
            for (int t = 0; t < things; t++) {
                for (int h = 0; h < holds; h++) {
                    if (refusal(t, h) == 0) {
                        many++;
                    }
                }
            }
            return many;
        }

        /** How many HOLDS that OPEN have nothing in them. */
        int freeHands() {
            int used = 0;
            for (int t = 0; t < things; t++) {
                if (lies[t] != NONE) {
                    used |= 1 << lies[t];
                }
            }
            int many = 0;
            for (int h = 0; h < holds; h++) {
                if (OPENS[kind[h]] == 1 && (used >> h & 1) == 0) {
                    many++;
                }
            }
            return many;
        }

        boolean isOpen() {
            if (key == NONE || lies[key] == NONE) {
                return false;
            }
            return OPENS[kind[lies[key]]] == 1 && freeHands() >= free;
        }
    }

    /** A row of numbers; of sort NONE it is missing. */
    private static final class Sheet {
        final int[] cells = new int[CELLS_MOST];
        int sort = NONE;
        int size;

        boolean isMissing() {
            return sort == NONE;
        }

        void become(int newSort, int n) {
            sort = newSort;
            size = n;
            for (int i = 0; i < CELLS_MOST; i++) {
                cells[i] = 0;
            }
        }

        void put(int i, int v) {
            if (sort == 0) {
                cells[i] = (byte) v;
            } else if (sort == 1) {
                cells[i] = (short) v;
            } else {
                cells[i] = v;
            }
        }

        boolean hasPart(int i, int n) {
            return i >= 0 && n >= 0 && n <= size && i <= size - n;
        }
    }

    /** A TEXT that has been read: of each part a row of numbers, names and what joins them, joined last. */
    private static final class Text {
        static final int NAMES = 6;
        /** Codes below are NUMBERS; from here on names; then what joins, by its TOKEN. */
        static final int NAME = 10000;
        static final int JOINS = 20000;
        static final int NEGATED = 1;
        /** 5 that are open, and 5 kinds of joins that may wait in each, leave 31 at most. */
        private static final int STACK = 40;
        private static final int PARTS = 3;

        private final int[] code = new int[TAPE_MOST];
        private final int[] begins = new int[PARTS + 1];
        private final int[] stack = new int[STACK];
        private int size;

        void clear() {
            size = 0;
        }

        /** What comes from now on belongs to this part. */
        void begin(int part) {
            begins[part] = size;
        }

        void add(int c) {
            if (size < TAPE_MOST) {
                code[size++] = c;
            }
        }

        int tells(int part, int[] names) {
            int top = 0;
            for (int i = begins[part]; i < begins[part + 1]; i++) {
                int c = code[i];
                if (c < JOINS) {
                    if (top >= STACK) {
                        return 0;
                    }
                    stack[top++] = c < NAME ? c : names[c - NAME];
                } else if (c == JOINS + NEGATED || c == JOINS + Tape.NOT) {
                    if (top < 1) {
                        return 0;
                    }
                    stack[top - 1] = ofOne(c - JOINS, stack[top - 1]);
                } else {
                    if (top < 2) {
                        return 0;
                    }
                    top--;
                    stack[top - 1] = ofTwo(c - JOINS, stack[top - 1], stack[top]);
                }
            }
            return stack[0];
        }

        private static int ofOne(int join, int a) {
            if (join == NEGATED) {
                return -a;
            }
            return a == 0 ? 1 : 0;
        }

        private static int ofTwo(int join, int a, int b) {
            switch (join) {
                case '+':
                    return a + b;
                case '-':
                    return a - b;
                case '*':
                    return a * b;
                case '<':
                    return a < b ? 1 : 0;
                case '=':
                    return a == b ? 1 : 0;
                case Tape.AND:
                    return a != 0 && b != 0 ? 1 : 0;
                default:
                    return a != 0 || b != 0 ? 1 : 0;
            }
        }
    }

    /** THE TAPE, and the reading of a TEXT from it, one TOKEN ahead. */
    private static final class Tape {
        // TOKENS: the SIGNS stand for themselves; these are below all of them.
        private static final int END = 2, BROKEN = 3, NUMBER = 4, NAME = 5, FIRST_KEY = 6;
        static final int OR = 9, AND = 10, NOT = 11;

        private static final String SIGNS = "();+-*<=";
        private static final String WORDS =
            "size  from  to    thing many  wet   costs bell  worth or    and   not   ";
        private static final int SLOT = 6, WORD_COUNT = 12, NAME_COUNT = 6;
        private static final int DIGITS_MOST = 4, OPEN_MOST = 5, PARTS = 3;

        // How close what is joined lies together.
        private static final int BY_OR = 0, BY_AND = 1, COMPARED = 2, SUM = 3, TERM = 4, ONE = 5;

        private final int[] bytes = new int[TAPE_MOST];
        int size;
        private int at;
        private int token;
        private int place;
        private int value;
        private Text into;

        void clear() {
            size = 0;
        }

        void add(int letter) {
            if (size < TAPE_MOST) {
                bytes[size++] = letter;
            }
        }

        /** Reads all into a TEXT: NONE, or the place of the FAULT. */
        int read(Text text) {
            into = text;
            into.clear();
            at = 0;
            advance();
            for (int part = 0; part < PARTS; part++) {
                if (token != FIRST_KEY + part) {
                    return place;
                }
                into.begin(part);
                advance();
                if (!joined(BY_OR, 0) || token != ';') {
                    return place;
                }
                advance();
            }
            into.begin(PARTS);
            return token == END ? NONE : place;
        }

        /** Reads what is joined so closely or closer, while so many are open; false: a FAULT at the place. */
        private boolean joined(int close, int open) {
            if (close >= ONE) {
                return one(open);
            }
            if (close == COMPARED && token == NOT) {
                if (open >= OPEN_MOST) {
                    return false;
                }
                advance();
                if (!joined(COMPARED, open + 1)) {
                    return false;
                }
                into.add(Text.JOINS + NOT);
                return true;
            }
            if (!joined(close + 1, open)) {
                return false;
            }
            // A comparison stands but once; of the others each takes a byte of THE TAPE.
            int most = close == COMPARED ? 1 : TAPE_MOST;
            for (int i = 0; i < most && joins(close); i++) {
                int join = token;
                advance();
                if (!joined(close + 1, open)) {
                    return false;
                }
                into.add(Text.JOINS + join);
            }
            return true;
        }

        private boolean joins(int close) {
            switch (close) {
                case BY_OR:
                    return token == OR;
                case BY_AND:
                    return token == AND;
                case COMPARED:
                    return token == '<' || token == '=';
                case SUM:
                    return token == '+' || token == '-';
                case TERM:
                    return token == '*';
                default:
                    return false;
            }
        }

        private boolean one(int open) {
            if (token == NUMBER || token == NAME) {
                into.add(token == NUMBER ? value : Text.NAME + value);
                advance();
                return true;
            }
            if (token != '-' && token != '(' || open >= OPEN_MOST) {
                return false;
            }
            boolean negated = token == '-';
            advance();
            if (negated) {
                if (!one(open + 1)) {
                    return false;
                }
                into.add(Text.JOINS + Text.NEGATED);
                return true;
            }
            if (!joined(BY_OR, open + 1) || token != ')') {
                return false;
            }
            advance();
            return true;
        }

        private void advance() {
            while (at < size && (bytes[at] == 32 || bytes[at] == 10)) {
                at++;
            }
            place = at;
            if (at >= size) {
                token = END;
            } else if (isLetter(bytes[at])) {
                takeWord();
            } else if (isDigit(bytes[at])) {
                takeNumber();
            } else {
                token = SIGNS.indexOf((char) bytes[at]) >= 0 ? bytes[at] : BROKEN;
                at++;
            }
        }

        private void takeWord() {
            while (at < size && isLetter(bytes[at])) {
                at++;
            }
            token = BROKEN;
            for (int word = 0; word < WORD_COUNT; word++) {
                if (isWord(word)) {
                    token = word < NAME_COUNT ? NAME : FIRST_KEY + word - NAME_COUNT;
                    value = word;
                    return;
                }
            }
        }

        /** Whether the letters from the place on till now are this one of WORDS. */
        private boolean isWord(int word) {
            int length = at - place;
            if (length >= SLOT || WORDS.charAt(word * SLOT + length) != ' ') {
                return false;
            }
            for (int i = 0; i < length; i++) {
                if (WORDS.charAt(word * SLOT + i) != bytes[place + i]) {
                    return false;
                }
            }
            return true;
        }

        private void takeNumber() {
            value = 0;
            while (at < size && isDigit(bytes[at])) {
                value = value * 10 + bytes[at] - '0';
                at++;
            }
            token = at - place <= DIGITS_MOST ? NUMBER : BROKEN;
        }

        private static boolean isLetter(int c) {
            return c >= 'a' && c <= 'z';
        }

        private static boolean isDigit(int c) {
            return c >= '0' && c <= '9';
        }
    }

    /**
     * All STATES of a Lot, in thought. The number of a STATE has the HOLD of each THING for a
     * digit. Every MOVE can be undone, for what lay together before MAY do so again: so ways
     * to a STATE are looked for from that STATE on.
     */
    private static final class Search {
        private static final int STATES_MOST = 3125;
        private static final int MAY = 1, OPEN = 2;
        /** One more than a MOVE can cost: what waits lies no farther than this from what is at turn. */
        private static final int TURNS = COSTS_BOUND + 1;
        private static final int FARTHEST = COSTS_BOUND * STATES_MOST;

        private final int[] mark = new int[STATES_MOST];
        private final int[] far = new int[STATES_MOST];
        // Those that wait for one turn are a chain; between the spreads both rows are free.
        private final int[] next = new int[STATES_MOST];
        private final int[] before = new int[STATES_MOST];
        private final int[] heads = new int[TURNS];
        private final int[] prices = new int[THINGS_MOST * HOLDS_MOST * HOLDS_MOST];
        private final int[] power = new int[THINGS_MOST];
        private final int[] at = new int[THINGS_MOST];
        // What lookAround() finds, and the place of the price of each MOVE back from there.
        private final int[] near = new int[THINGS_MOST * HOLDS_MOST];
        private final int[] backBy = new int[THINGS_MOST * HOLDS_MOST];
        private Lot lot;
        private int states;
        private int home;
        private int waiting;

        /** Which STATES there are of this Lot; it stays as it was. */
        void look(Lot given) {
            lot = given;
            states = 1;
            home = 0;
            for (int t = 0; t < lot.things; t++) {
                power[t] = states;
                states *= lot.holds;
                if (t != lot.gone) {
                    home += lot.lies[t] * power[t];
                }
                lot.lies[t] = NONE;
            }
            for (int s = 0; s < states; s++) {
                mark[s] = 0;
            }
            lay(0, 0);
            split(home);
            for (int t = 0; t < lot.things; t++) {
                lot.lies[t] = t == lot.gone ? NONE : at[t];
            }
        }

        /** Lays this THING and those behind it wherever they MAY lie. */
        private void lay(int t, int s) {
            if (t >= lot.things) {
                mark[s] = lot.isOpen() ? OPEN : MAY;
                return;
            }
            if (t == lot.gone) {
                lay(t + 1, s);
                return;
            }
            for (int h = 0; h < lot.holds; h++) {
                if (lot.refusal(t, h) == 0) {
                    lot.lies[t] = h;
                    lay(t + 1, s + h * power[t]);
                    lot.lies[t] = NONE;
                }
            }
        }

        private void split(int s) {
            int rest = s;
            for (int t = 0; t < lot.things && lot.holds > 0; t++) {
                at[t] = rest % lot.holds;
                rest /= lot.holds;
            }
        }

        /** The STATE that a row of HOLDS tells; NONE, if it is none that can be. */
        int stateOf(int[] row) {
            int s = 0;
            for (int t = 0; t < lot.things; t++) {
                if (!lot.hasHold(row[t])) {
                    return NONE;
                }
                s += row[t] * power[t];
            }
            return mark[s] == 0 ? NONE : s;
        }

        void price(int t, int from, int to, int cost) {
            prices[placeOf(t, from, to)] = cost;
        }

        private static int placeOf(int t, int from, int to) {
            return (t * HOLDS_MOST + from) * HOLDS_MOST + to;
        }

        /** Every MOVE costs 1, so that costs are numbers of MOVES. */
        void countMoves() {
            for (int i = 0; i < prices.length; i++) {
                prices[i] = 1;
            }
        }

        /** How far it is from home to a STATE that is OPEN; the row far tells it of others. */
        int spreadFromOpen(boolean all) {
            clearTurns();
            for (int s = 0; s < states; s++) {
                if (mark[s] == OPEN) {
                    enterTurn(s, 0);
                }
            }
            return spread(all);
        }

        /** How far it is from home to this STATE (NONE: to none). */
        int spreadFrom(int goal) {
            clearTurns();
            if (goal != NONE) {
                enterTurn(goal, 0);
            }
            return spread(false);
        }

        private void clearTurns() {
            waiting = 0;
            for (int s = 0; s < states; s++) {
                far[s] = NONE;
            }
            for (int i = 0; i < TURNS; i++) {
                heads[i] = NONE;
            }
        }

        /** Goes outward; if not to all, then till those are done that are no farther than home. */
        private int spread(boolean all) {
            for (int d = 0; d <= FARTHEST && waiting > 0; d++) {
                if (!all && far[home] != NONE && far[home] < d) {
                    return far[home];
                }
                for (int i = 0; i < states && heads[d % TURNS] != NONE; i++) {
                    int s = heads[d % TURNS];
                    leaveTurn(s);
                    spreadOnce(s, d);
                }
            }
            return far[home];
        }

        /** From each STATE that one MOVE leads here it is no farther than by this one. */
        private void spreadOnce(int s, int d) {
            int many = lookAround(s);
            for (int i = 0; i < many; i++) {
                int p = near[i];
                int then = d + prices[backBy[i]];
                if (far[p] == NONE) {
                    enterTurn(p, then);
                } else if (far[p] > then) {
                    leaveTurn(p);
                    enterTurn(p, then);
                }
            }
        }

        /** Puts the STATES that are one MOVE from here into the row near: how many. */
        private int lookAround(int s) {
            int many = 0;
            split(s);
            for (int t = 0; t < lot.things; t++) {
                int here = at[t];
                int p = s - here * power[t];
                for (int h = 0; h < lot.holds; h++) {
                    if (h != here && mark[p] != 0) {
                        near[many] = p;
                        backBy[many] = placeOf(t, h, here);
                        many++;
                    }
                    p += power[t];
                }
            }
            return many;
        }

        private void enterTurn(int s, int d) {
            int turn = d % TURNS;
            int head = heads[turn];
            far[s] = d;
            next[s] = head;
            before[s] = NONE;
            if (head != NONE) {
                before[head] = s;
            }
            heads[turn] = s;
            waiting++;
        }

        private void leaveTurn(int s) {
            if (before[s] == NONE) {
                heads[far[s] % TURNS] = next[s];
            } else {
                next[before[s]] = next[s];
            }
            if (next[s] != NONE) {
                before[next[s]] = before[s];
            }
            waiting--;
        }

        /** The first MOVE from home by which it comes nearer by its whole price; NONE. */
        int firstBest() {
            if (mark[home] == OPEN || far[home] == NONE) {
                return NONE;
            }
            for (int t = 0; t < lot.things; t++) {
                int from = lot.lies[t];
                for (int h = 0; h < lot.holds; h++) {
                    int s = home + (h - from) * power[t];
                    if (mark[s] != 0 && s != home && far[s] != NONE
                            && far[home] - far[s] == prices[placeOf(t, from, h)]) {
                        return 10 * t + h;
                    }
                }
            }
            return NONE;
        }

        /** How far, were this THING in that HOLD; NONE also, if it MAY not lie there. */
        int farWith(int t, int h) {
            int s = home + (h - lot.lies[t]) * power[t];
            return mark[s] == 0 ? NONE : far[s];
        }

        /** How many STATES can be reached from home; they stand in the row next. */
        int flood() {
            for (int s = 0; s < states; s++) {
                before[s] = 0;
            }
            before[home] = 1;
            next[0] = home;
            int many = 1;
            for (int i = 0; i < many && i < states; i++) {
                many = floodOnce(next[i], many);
            }
            return many;
        }

        private int floodOnce(int s, int many) {
            int all = many;
            int around = lookAround(s);
            for (int i = 0; i < around; i++) {
                if (before[near[i]] == 0) {
                    before[near[i]] = 1;
                    next[all++] = near[i];
                }
            }
            return all;
        }

        /** The greatest distance of those that can be reached; NONE. */
        int farthest() {
            int many = flood();
            int most = NONE;
            for (int i = 0; i < many; i++) {
                most = Math.max(most, far[next[i]]);
            }
            return most;
        }

        /** How many rows of n MOVES lead from home to the goal: by all STATES in the middle. */
        long rowsTo(int goal, int n) {
            if (goal == NONE) {
                return 0;
            }
            step(far, home, n / 2);
            step(before, goal, n - n / 2);
            long rows = 0;
            for (int s = 0; s < states; s++) {
                rows += (long) far[s] * before[s];
            }
            return rows;
        }

        /** How many rows of n MOVES lead from a STATE to each; n is 4 at most, so an int has room. */
        private void step(int[] rows, int from, int n) {
            for (int s = 0; s < states; s++) {
                rows[s] = 0;
            }
            rows[from] = 1;
            for (int i = 0; i < n; i++) {
                for (int s = 0; s < states; s++) {
                    next[s] = 0;
                }
                for (int s = 0; s < states; s++) {
                    if (rows[s] != 0) {
                        stepOnce(s, rows[s]);
                    }
                }
                System.arraycopy(next, 0, rows, 0, states);
            }
        }

        private void stepOnce(int s, int rows) {
            int many = lookAround(s);
            for (int i = 0; i < many; i++) {
                next[near[i]] += rows;
            }
        }
    }
}
