/** A floor of thirty six cells with cracks, dust of kinds on it, and the brush that sweeps them into heaps. */
public final class KinInTheHeap {
    public static final int NONE = -1, BAD = -2, STATE = -3, FULL = -4;
    public static final long NO = -4611686018427387904L;

    private static final int NONE_SUCH = -1000, FAULTS = -100;
    private static final int MISSING = -11, OUTSIDE = -12, UNLIKE = -13, NEGATIVE = -14;
    private static final int SIDE = 6, CELLS = 36, DUSTS = 8, KINDS = 6, NUMBERS = 10, FORCES = 10;
    private static final int STROKES = 24, ROW_STROKES = 12, LAST_WEEK = 999, TOLD_WEEKS = 100;
    private static final int MOST_STROKES = 40, MOST_WEEKS = 40, MOST_SEEDS = 20, SEED_STROKES = 6;
    private static final int TEXTS = 6, TAPE = 160, SHEETS = 4, ITEMS = 40, SORTS = 3, ITEMS_OF_DUST = 3;
    private static final int MOTE = 0, UNCLE = 1, SPARK = 2, SHOE = 3, SOOT = 4;
    private static final int GOES_PART = 0, FREES_PART = 1, DRAWS_PART = 2, PARTS = 3;
    private static final int BYTES = 0, SHORTS = 1;

    /** The kind that each kind is directly under. */
    private static final int[] ABOVE = {NONE, MOTE, MOTE, UNCLE, SPARK, MOTE};

    // Tokens of a text, and the codes it is kept as: 0 .. 9999 a number, NAMES and more a name, below 0 the rest;
    // KEY and less are the words goes, frees, draws, or, and, not; SIGN and less the SIGNS, both in this order.
    private static final int NAMES = 10000, END = -1, WRONG = -2, KEY = -3, SIGN = -10;
    private static final int OR = KEY - 3, AND = KEY - 4, NOT = KEY - 5;
    private static final String SIGNS = "();+-*<=";
    private static final int OPEN = SIGN, CLOSE = SIGN - 1, STOP = SIGN - 2, PLUS = SIGN - 3, MINUS = SIGN - 4;
    private static final int TIMES = SIGN - 5, LESS = SIGN - 6, SAME = SIGN - 7, NEGATE = SIGN - 8;
    private static final int KEY_WORDS = 6, WORDS = 12, MOST_DIGITS = 4, MOST_OPEN = 5;
    private static final int FORCE_FACT = 0, NUMBER_FACT = 1, ROW_FACT = 2, COLUMN_FACT = 3, KIN_FACT = 4;
    private static final int WEEK_FACT = 5, FACTS = 6;

    private final Text[] texts = new Text[TEXTS];
    private final Sheet[] sheets = new Sheet[SHEETS];
    private final Reader reader = new Reader();
    private final Floor now;
    private final Floor kept;
    private final Floor thought;
    private final Floor further;
    private int textCount;
    private boolean imaged;

    public KinInTheHeap() {
        for (int i = 0; i < TEXTS; i++) {
            texts[i] = new Text();
        }
        for (int i = 0; i < SHEETS; i++) {
            sheets[i] = new Sheet();
        }
        texts[0].becomeFirst();
        textCount = 1;
        now = new Floor(texts);
        kept = new Floor(texts);
        thought = new Floor(texts);
        further = new Floor(texts);
    }

    // ---- the floor, dust

    public int set(int what, int of, int v) {
        switch (what) {
            case 0:
                return setWeek(v);
            case 1:
                return setForce(v);
            case 2:
                return setCrack(of, v);
            case 3:
                return setNumber(of, v);
            case 4:
                return setPlace(of, v);
            default:
                return NONE_SUCH;
        }
    }

    public int dust(int kind, int number, int on) {
        if (!isDust(kind, number, on)) {
            return BAD;
        }
        return now.add(kind, number, on) ? now.dusts - 1 : FULL;
    }

    public int told(int of, int what) {
        if (what == 0) {
            return now.weeks;
        }
        if (what == 1) {
            return now.strength;
        }
        if (what == 2 || what == 10) {
            return toldOfCell(of, what);
        }
        if (what < 3 || what > 10 || !now.has(of)) {
            return NONE_SUCH;
        }
        return what < 7 ? toldOfDust(of, what) : toldOfGoing(of, what);
    }

    // ---- texts

    public int feed(int letter) {
        if (!within(letter, 0, 255)) {
            return BAD;
        }
        return reader.take(letter) ? reader.size : FULL;
    }

    public int text() {
        if (textCount >= TEXTS) {
            return FULL;
        }
        int fault = reader.read(texts[textCount]);
        reader.clear();
        if (fault != NONE) {
            return FAULTS - fault;
        }
        textCount++;
        return textCount - 1;
    }

    public int force(int text) {
        if (!within(text, 0, textCount - 1)) {
            return BAD;
        }
        int was = now.rule;
        now.rule = text;
        return was;
    }

    // ---- strokes, weeks

    public int stroke(int s) {
        return isStroke(s) ? now.brush(s) : BAD;
    }

    public int week() {
        return now.weeks >= LAST_WEEK ? STATE : now.drift();
    }

    public int sweep(int sheet, int what) {
        if (!isSheet(sheet) || !isSweepWhat(what)) {
            return BAD;
        }
        int refusal = strokesRefused(sheets[sheet]);
        if (refusal != 0) {
            return refusal;
        }
        thought.become(now);
        int out = brushAll(thought, sheets[sheet]);
        if (what == 0) {
            return out;
        }
        return what < 10 ? measure(thought, what) : thought.cells[what - 10];
    }

    public int sweeps(int sheet) {
        if (!isSheet(sheet)) {
            return BAD;
        }
        int refusal = strokesRefused(sheets[sheet]);
        return refusal != 0 ? refusal : brushAll(now, sheets[sheet]);
    }

    public int floor(int what) {
        switch (what) {
            case 0:
                return now.heaps();
            case 1:
                return now.greatest();
            case 2:
                return now.together();
            case 3:
                return now.spread();
            case 4:
                return now.thoseIn(NONE);
            default:
                return BAD;
        }
    }

    public long where(int what) {
        if (what == 0) {
            return now.heapBits();
        }
        if (what == 1) {
            return now.cracks;
        }
        if (what < 10 || !now.has(what - 10)) {
            return NO;
        }
        return reached(what - 10);
    }

    // ---- what would be best

    public int gather(int some, int what) {
        if (!within(some, 1, (1 << now.dusts) - 1) || !within(what, 0, 1)) {
            return BAD;
        }
        int strokes = gathering(some);
        if (what == 1 || strokes <= 0) {
            return strokes;
        }
        return strokes < 100 ? 1 : 2;
    }

    public int best(int what) {
        if (!within(what, 0, 5)) {
            return BAD;
        }
        int s = what < 2 ? mostTogether() : what < 4 ? leastSpread() : fewestLost();
        if (what % 2 == 0 || s == NONE) {
            return s;
        }
        think(s);
        return what == 1 ? thought.together() : what == 3 ? thought.spread() : thought.outs();
    }

    public int save(int s, int what) {
        if (!isStroke(s) || !within(what, 0, 1)) {
            return BAD;
        }
        int cell = saving(s);
        return what == 0 ? cell : outWithCrack(s, cell);
    }

    public int lasts(int one, int n) {
        if (!now.has(one) || !within(n, 0, MOST_WEEKS)) {
            return BAD;
        }
        thought.become(now);
        for (int i = 0; i < n && thought.isIn(one); i++) {
            thought.drift();
        }
        return thought.isIn(one) ? NONE : thought.weeks - now.weeks;
    }

    public long share(int part) {
        return lowest(now.outs(), now.dusts, part);
    }

    // ---- going that was told

    public int tells(int sheet, int one, int what) {
        if (!isSheet(sheet) || !now.isIn(one) || !within(what, 0, 6)) {
            return BAD;
        }
        int refusal = tellingRefused(sheets[sheet]);
        return refusal != 0 ? refusal : toldBack(sheets[sheet], one, what);
    }

    public long places(int sheet, int one) {
        if (!isSheet(sheet) || !now.isIn(one) || tellingRefused(sheets[sheet]) != 0) {
            return NO;
        }
        thought.become(now);
        long bits = 0;
        for (int c = 0; c < CELLS; c++) {
            thought.cells[one] = c;
            if (firstOtherwise(sheets[sheet], one) == NONE) {
                bits |= 1L << c;
            }
        }
        return bits;
    }

    public int film(int sheet, int one) {
        if (!isSheet(sheet) || !now.isIn(one)) {
            return BAD;
        }
        thought.become(now);
        sheets[sheet].make(BYTES, FORCES);
        int all = 0;
        for (int f = 0; f < FORCES; f++) {
            thought.strength = f;
            int far = thought.far(one);
            sheets[sheet].put(f, far);
            all += far;
        }
        return all;
    }

    public int drawn(int seed, int n) {
        return within(n, 0, MOST_STROKES) ? outByDrawn(seed, n) : BAD;
    }

    public long chance(int seed, int m, int k, int part) {
        if (!within(m, 1, MOST_SEEDS) || !within(k, 0, DUSTS)) {
            return NO;
        }
        int hits = 0;
        for (int i = 0; i < m; i++) {
            if (outByDrawn(seed + i, SEED_STROKES) <= k) {
                hits++;
            }
        }
        return lowest(hits, m, part);
    }

    public int image() {
        kept.become(now);
        imaged = true;
        return now.dusts;
    }

    public int back() {
        if (!imaged) {
            return STATE;
        }
        now.become(kept);
        return now.dusts;
    }

    public int count(int what) {
        switch (what) {
            case 0:
                return now.dusts;
            case 1:
                return Long.bitCount(now.cracks);
            case 2:
                return now.weeks;
            case 3:
                return textCount;
            case 4:
                return reader.size;
            case 5:
                return now.rule;
            default:
                return BAD;
        }
    }

    // ---- the host

    public int sheet(int sheet, int sort, int n) {
        if (!isSheet(sheet) || !within(sort, NONE, SORTS - 1)) {
            return BAD;
        }
        if (sort == NONE) {
            sheets[sheet].make(NONE, 0);
            return 1;
        }
        if (n > ITEMS) {
            return BAD;
        }
        if (n < 0) {
            return NEGATIVE;
        }
        sheets[sheet].make(sort, n);
        return 1;
    }

    public int cell(int sheet, int i, int v) {
        if (!isSheet(sheet)) {
            return BAD;
        }
        if (sheets[sheet].isMissing()) {
            return MISSING;
        }
        return sheets[sheet].put(i, v) ? 1 : OUTSIDE;
    }

    public int copy(int sheet, int i, int other, int j, int n) {
        if (!isSheet(sheet) || !isSheet(other)) {
            return BAD;
        }
        Sheet from = sheets[sheet];
        Sheet to = sheets[other];
        if (from.isMissing() || to.isMissing()) {
            return MISSING;
        }
        if (from.sort != to.sort) {
            return UNLIKE;
        }
        if (!from.holds(i, n) || !to.holds(j, n)) {
            return OUTSIDE;
        }
        System.arraycopy(from.items, i, to.items, j, n);
        return n;
    }

    public int heap(int sheet, int sort, int from, int n) {
        if (!isSheet(sheet) || !within(sort, 0, SORTS - 1) || !within(n, 0, DUSTS)) {
            return BAD;
        }
        Sheet row = sheets[sheet];
        if (row.isMissing()) {
            return MISSING;
        }
        return row.sort == sort ? heapOf(row, from, n) : UNLIKE;
    }

    public int taken(int one, int k) {
        if (!within(k, 0, KINDS - 1)) {
            return BAD;
        }
        if (!now.has(one)) {
            return MISSING;
        }
        return isUnder(now.kinds[one], k) ? now.numbers[one] : UNLIKE;
    }

    // ---- what the calls are made of

    private static boolean within(int v, int least, int most) {
        return v >= least && v <= most;
    }

    private static boolean isStroke(int s) {
        return within(s, 0, STROKES - 1);
    }

    private static boolean isSheet(int sheet) {
        return within(sheet, 0, SHEETS - 1);
    }

    private static boolean isCell(int c) {
        return within(c, 0, CELLS - 1);
    }

    private static boolean isDust(int kind, int number, int on) {
        return within(kind, 0, KINDS - 1) && within(number, 0, NUMBERS - 1) && isCell(on);
    }

    private boolean isSweepWhat(int what) {
        return within(what, 0, 3) || what >= 10 && now.has(what - 10);
    }

    private int setWeek(int v) {
        if (!within(v, 0, LAST_WEEK)) {
            return NONE_SUCH;
        }
        int was = now.weeks;
        now.weeks = v;
        return was;
    }

    private int setForce(int v) {
        if (!within(v, 0, FORCES - 1)) {
            return NONE_SUCH;
        }
        int was = now.strength;
        now.strength = v;
        return was;
    }

    private int setCrack(int c, int v) {
        if (!isCell(c) || !within(v, 0, 1)) {
            return NONE_SUCH;
        }
        int was = now.isCracked(c) ? 1 : 0;
        now.cracks = v == 1 ? now.cracks | 1L << c : now.cracks & ~(1L << c);
        return was;
    }

    private int setNumber(int one, int v) {
        if (!now.has(one) || !within(v, 0, NUMBERS - 1)) {
            return NONE_SUCH;
        }
        int was = now.numbers[one];
        now.numbers[one] = v;
        return was;
    }

    private int setPlace(int one, int v) {
        if (!now.has(one) || v != NONE && !isCell(v)) {
            return NONE_SUCH;
        }
        int was = now.cells[one];
        now.cells[one] = v;
        return was;
    }

    private int toldOfCell(int c, int what) {
        if (!isCell(c)) {
            return NONE_SUCH;
        }
        if (what == 10) {
            return now.thoseIn(c);
        }
        return now.isCracked(c) ? 1 : 0;
    }

    private int toldOfDust(int one, int what) {
        switch (what) {
            case 3:
                return now.numbers[one];
            case 4:
                return now.cells[one];
            case 5:
                return now.kinds[one];
            default:
                return now.thoseIn(now.cells[one]);
        }
    }

    private int toldOfGoing(int one, int what) {
        if (!now.isIn(one)) {
            return NONE;
        }
        switch (what) {
            case 7:
                return now.far(one);
            case 8:
                return now.isFree(one) ? 1 : 0;
            default:
                return now.way(one);
        }
    }

    /** 0, or the refusal of a sheet that should tell strokes. */
    private static int strokesRefused(Sheet row) {
        if (row.isMissing()) {
            return MISSING;
        }
        for (int i = 0; i < row.size; i++) {
            if (!isStroke(row.items[i])) {
                return BAD;
            }
        }
        return 0;
    }

    private static int brushAll(Floor floor, Sheet row) {
        int out = 0;
        for (int i = 0; i < row.size; i++) {
            out += floor.brush(row.items[i]);
        }
        return out;
    }

    private static int measure(Floor floor, int what) {
        switch (what) {
            case 1:
                return floor.together();
            case 2:
                return floor.heaps();
            default:
                return floor.spread();
        }
    }

    /** Puts into the thought how all is behind this one stroke. */
    private void think(int s) {
        thought.become(now);
        thought.brush(s);
    }

    private long reached(int one) {
        long bits = 0;
        if (!now.isIn(one)) {
            return bits;
        }
        for (int s = 0; s < STROKES; s++) {
            think(s);
            if (thought.isIn(one)) {
                bits |= 1L << thought.cells[one];
            }
        }
        return bits;
    }

    /** The strokes as gather() tells them, or NONE. */
    private int gathering(int some) {
        if (now.areGathered(some)) {
            return 0;
        }
        for (int s = 0; s < STROKES; s++) {
            think(s);
            if (thought.areGathered(some)) {
                return s + 1;
            }
        }
        for (int s = 0; s < STROKES; s++) {
            think(s);
            int last = lastGathering(some);
            if (last != NONE) {
                return 100 * (s + 1) + last + 1;
            }
        }
        return NONE;
    }

    /** The first stroke that gathers them behind what is thought, or NONE. */
    private int lastGathering(int some) {
        for (int s = 0; s < STROKES; s++) {
            further.become(thought);
            further.brush(s);
            if (further.areGathered(some)) {
                return s;
            }
        }
        return NONE;
    }

    private int mostTogether() {
        int first = 0;
        int most = -1;
        for (int s = 0; s < STROKES; s++) {
            think(s);
            int twos = thought.together();
            if (twos > most) {
                most = twos;
                first = s;
            }
        }
        return first;
    }

    private int leastSpread() {
        int first = 0;
        int least = -1;
        for (int s = 0; s < STROKES; s++) {
            think(s);
            int apart = thought.spread();
            if (least < 0 || apart < least) {
                least = apart;
                first = s;
            }
        }
        return first;
    }

    private int fewestLost() {
        int first = NONE;
        int fewest = DUSTS + 1;
        for (int s = 0; s < STROKES; s++) {
            think(s);
            int out = thought.outs();
            if (out < fewest && thought.differs(now)) {
                fewest = out;
                first = s;
            }
        }
        return first;
    }

    private int saving(int s) {
        int first = NONE;
        int fewest = outWithCrack(s, NONE);
        for (int c = 0; c < CELLS; c++) {
            if (!now.isCracked(c) && now.thoseIn(c) == 0) {
                int out = outWithCrack(s, c);
                if (out < fewest) {
                    fewest = out;
                    first = c;
                }
            }
        }
        return first;
    }

    /** How many are out behind a stroke, were there a crack in a cell, too (NONE: in none). */
    private int outWithCrack(int s, int c) {
        thought.become(now);
        if (c != NONE) {
            thought.cracks |= 1L << c;
        }
        thought.brush(s);
        return thought.outs();
    }

    private int outByDrawn(int seed, int n) {
        thought.become(now);
        int z = seed;
        for (int i = 0; i < n; i++) {
            z = z * 1103515245 + 12345;
            thought.brush((z >>> 9) % STROKES);
        }
        return thought.outs();
    }

    private static long lowest(int above, int below, int part) {
        if (below <= 0 || !within(part, 0, 1)) {
            return NO;
        }
        int term = part == 0 ? above : below;
        for (int d = below; d > 1; d--) {
            if (above % d == 0 && below % d == 0) {
                return term / d;
            }
        }
        return term;
    }

    private static int tellingRefused(Sheet row) {
        if (row.isMissing()) {
            return MISSING;
        }
        return row.size > FORCES ? BAD : 0;
    }

    private int toldBack(Sheet row, int one, int what) {
        thought.become(now);
        switch (what) {
            case 0:
                return firstOtherwise(row, one);
            case 1:
                return kindsTold(row, one);
            case 2:
                return numbersTold(row, one);
            case 3:
                return weeksTold(row, one);
            case 4:
                return leastWeekTold(row, one);
            case 5:
                return textsTold(row, one);
            default:
                return dustTold(row);
        }
    }

    /** The first force by which one in the thought goes otherwise than the row tells, or NONE. */
    private int firstOtherwise(Sheet row, int one) {
        for (int f = 0; f < row.size; f++) {
            thought.strength = f;
            if (thought.far(one) != row.items[f]) {
                return f;
            }
        }
        return NONE;
    }

    private int kindsTold(Sheet row, int one) {
        int bits = 0;
        for (int k = 0; k < KINDS; k++) {
            thought.kinds[one] = k;
            if (firstOtherwise(row, one) == NONE) {
                bits |= 1 << k;
            }
        }
        return bits;
    }

    private int numbersTold(Sheet row, int one) {
        int bits = 0;
        for (int n = 0; n < NUMBERS; n++) {
            thought.numbers[one] = n;
            if (firstOtherwise(row, one) == NONE) {
                bits |= 1 << n;
            }
        }
        return bits;
    }

    private int weeksTold(Sheet row, int one) {
        int weeks = 0;
        for (int w = 0; w < TOLD_WEEKS; w++) {
            thought.weeks = w;
            if (firstOtherwise(row, one) == NONE) {
                weeks++;
            }
        }
        return weeks;
    }

    private int leastWeekTold(Sheet row, int one) {
        for (int w = 0; w < TOLD_WEEKS; w++) {
            thought.weeks = w;
            if (firstOtherwise(row, one) == NONE) {
                return w;
            }
        }
        return NONE;
    }

    private int textsTold(Sheet row, int one) {
        int bits = 0;
        for (int t = 0; t < textCount; t++) {
            thought.rule = t;
            if (firstOtherwise(row, one) == NONE) {
                bits |= 1 << t;
            }
        }
        return bits;
    }

    private int dustTold(Sheet row) {
        int bits = 0;
        for (int d = 0; d < now.dusts; d++) {
            if (now.isIn(d) && firstOtherwise(row, d) == NONE) {
                bits |= 1 << d;
            }
        }
        return bits;
    }

    private int heapOf(Sheet row, int from, int n) {
        int came = 0;
        int item = from;
        for (int i = 0; i < n; i++) {
            if (!row.holds(item, ITEMS_OF_DUST)) {
                return OUTSIDE;
            }
            if (dust(row.items[item], row.items[item + 1], row.items[item + 2]) >= 0) {
                came++;
            }
            item += ITEMS_OF_DUST;
        }
        return came;
    }

    private static boolean isUnder(int kind, int above) {
        int k = kind;
        for (int i = 0; i < KINDS; i++) {
            if (k == above) {
                return true;
            }
            if (!within(k, 0, KINDS - 1)) {
                return false;
            }
            k = ABOVE[k];
        }
        return false;
    }

    /** How all stands on the floor at one time, and how it goes on from there. */
    private static final class Floor {
        final int[] kinds = new int[DUSTS];
        final int[] numbers = new int[DUSTS];
        final int[] cells = new int[DUSTS];
        long cracks;
        int weeks;
        int strength = 3;
        int rule;
        int dusts;
        private final Text[] texts;
        private final int[] nexts = new int[DUSTS];
        private final int[] facts = new int[FACTS];

        Floor(Text[] texts) {
            this.texts = texts;
        }

        void become(Floor other) {
            System.arraycopy(other.kinds, 0, kinds, 0, DUSTS);
            System.arraycopy(other.numbers, 0, numbers, 0, DUSTS);
            System.arraycopy(other.cells, 0, cells, 0, DUSTS);
            cracks = other.cracks;
            weeks = other.weeks;
            strength = other.strength;
            rule = other.rule;
            dusts = other.dusts;
        }

        boolean add(int kind, int number, int on) {
            if (dusts >= DUSTS) {
                return false;
            }
            kinds[dusts] = kind;
            numbers[dusts] = number;
            cells[dusts] = on;
            dusts++;
            return true;
        }

        boolean has(int one) {
            return within(one, 0, dusts - 1);
        }

        boolean isIn(int one) {
            return has(one) && cells[one] != NONE;
        }

        boolean isCracked(int c) {
            return (cracks >>> c & 1L) != 0;
        }

        /** Bits of those in a cell, or of those out (NONE). */
        int thoseIn(int c) {
            int bits = 0;
            for (int d = 0; d < dusts; d++) {
                if (cells[d] == c) {
                    bits |= 1 << d;
                }
            }
            return bits;
        }

        int outs() {
            return Integer.bitCount(thoseIn(NONE));
        }

        boolean areGathered(int some) {
            int c = NONE;
            for (int d = 0; d < dusts; d++) {
                if ((some >> d & 1) != 0) {
                    if (cells[d] == NONE || c != NONE && cells[d] != c) {
                        return false;
                    }
                    c = cells[d];
                }
            }
            return c != NONE;
        }

        boolean differs(Floor other) {
            for (int d = 0; d < dusts; d++) {
                if (cells[d] != other.cells[d]) {
                    return true;
                }
            }
            return false;
        }

        long heapBits() {
            long bits = 0;
            for (int d = 0; d < dusts; d++) {
                if (cells[d] != NONE) {
                    bits |= 1L << cells[d];
                }
            }
            return bits;
        }

        int heaps() {
            return Long.bitCount(heapBits());
        }

        int greatest() {
            int most = 0;
            for (int d = 0; d < dusts; d++) {
                if (cells[d] != NONE) {
                    most = Math.max(most, kin(d));
                }
            }
            return most;
        }

        int together() {
            int twos = 0;
            for (int d = 0; d < dusts; d++) {
                for (int e = 0; e < d; e++) {
                    if (cells[d] != NONE && cells[d] == cells[e]) {
                        twos++;
                    }
                }
            }
            return twos;
        }

        int spread() {
            int apart = 0;
            for (int d = 0; d < dusts; d++) {
                for (int e = 0; e < d; e++) {
                    if (cells[d] != NONE && cells[e] != NONE) {
                        apart += Math.abs(cells[d] % SIDE - cells[e] % SIDE);
                        apart += Math.abs(cells[d] / SIDE - cells[e] / SIDE);
                    }
                }
            }
            return apart;
        }

        int kin(int one) {
            int many = 0;
            for (int d = 0; d < dusts; d++) {
                if (cells[d] == cells[one]) {
                    many++;
                }
            }
            return many;
        }

        int far(int one) {
            int v = bounded(telling(GOES_PART, one));
            switch (kinds[one]) {
                case MOTE:
                    return v;
                case UNCLE:
                    return v / 2;
                case SPARK:
                    return bounded(v + 1);
                case SHOE:
                    return kin(one) == 1 ? 0 : v / 2;
                case SOOT:
                    return bounded(2 * (v + 1));
                default:
                    return strength > 5 ? numbers[one] : 0;
            }
        }

        boolean isFree(int one) {
            switch (kinds[one]) {
                case MOTE:
                    return telling(FREES_PART, one) != 0;
                case UNCLE:
                    return false;
                case SPARK:
                    return true;
                case SHOE:
                    return strength == 9;
                case SOOT:
                    return weeks % 2 == 0;
                default:
                    return telling(FREES_PART, one) == 0;
            }
        }

        /** 0 nowhere, 1 a column more, 2 a column less, 3 a row more, 4 a row less. */
        int way(int one) {
            int v = Math.floorMod(telling(DRAWS_PART, one), 5);
            switch (kinds[one]) {
                case MOTE:
                case SPARK:
                    return v;
                case UNCLE:
                case SHOE:
                    return 0;
                case SOOT:
                    return otherWay(v);
                default:
                    return numbers[one] > 4 ? v : 0;
            }
        }

        /** A stroke: how many come to be out by it. */
        int brush(int s) {
            int way = (s < ROW_STROKES ? 1 : 3) + s % 2;
            for (int d = 0; d < dusts; d++) {
                nexts[d] = cells[d];
                if (isInLine(cells[d], s) && (!isCracked(cells[d]) || isFree(d))) {
                    nexts[d] = swept(cells[d], way, far(d));
                }
            }
            return settle();
        }

        /** A week: how many come to be out by it. */
        int drift() {
            for (int d = 0; d < dusts; d++) {
                nexts[d] = cells[d];
                if (cells[d] != NONE && (!isCracked(cells[d]) || isFree(d))) {
                    nexts[d] = stepped(cells[d], way(d));
                }
            }
            weeks++;
            return settle();
        }

        private int swept(int from, int way, int steps) {
            int c = from;
            for (int i = 0; i < steps; i++) {
                c = stepped(c, way);
                if (c == NONE || isCracked(c)) {
                    return c;
                }
            }
            return c;
        }

        /** All go at once, for how one goes hangs on where the others stood ahead. */
        private int settle() {
            int out = 0;
            for (int d = 0; d < dusts; d++) {
                if (cells[d] != NONE && nexts[d] == NONE) {
                    out++;
                }
                cells[d] = nexts[d];
            }
            return out;
        }

        /** What THE RULE tells of one that is in a cell. */
        private int telling(int part, int one) {
            if (!within(rule, 0, TEXTS - 1)) {
                return 0;
            }
            facts[FORCE_FACT] = strength;
            facts[NUMBER_FACT] = numbers[one];
            facts[ROW_FACT] = cells[one] / SIDE;
            facts[COLUMN_FACT] = cells[one] % SIDE;
            facts[KIN_FACT] = kin(one);
            facts[WEEK_FACT] = weeks;
            return texts[rule].value(part, facts);
        }

        private static int bounded(int v) {
            return Math.max(0, Math.min(9, v));
        }

        private static int otherWay(int way) {
            if (way == 0) {
                return 0;
            }
            return way % 2 == 1 ? way + 1 : way - 1;
        }

        private static boolean isInLine(int c, int s) {
            if (c == NONE) {
                return false;
            }
            return s < ROW_STROKES ? c / SIDE == s / 2 : c % SIDE == (s - ROW_STROKES) / 2;
        }

        /** The cell beside one, or NONE over the edge. */
        private static int stepped(int c, int way) {
            switch (way) {
                case 1:
                    return c % SIDE == SIDE - 1 ? NONE : c + 1;
                case 2:
                    return c % SIDE == 0 ? NONE : c - 1;
                case 3:
                    return c / SIDE == SIDE - 1 ? NONE : c + SIDE;
                case 4:
                    return c / SIDE == 0 ? NONE : c - SIDE;
                default:
                    return c;
            }
        }
    }

    /** A text as it was understood: its three parts as codes, operands ahead of what is done with them. */
    private static final class Text {
        private final int[] codes = new int[TAPE];
        private final int[] ends = new int[PARTS];
        private final int[] stack = new int[TAPE + 1];
        private int size;
        private int parts;

        void clear() {
            size = 0;
            parts = 0;
        }

        /** goes force ; frees 0 ; draws 0 ; */
        void becomeFirst() {
            clear();
            add(NAMES + FORCE_FACT);
            endPart();
            add(0);
            endPart();
            add(0);
            endPart();
        }

        void add(int code) {
            if (size < TAPE) {
                codes[size] = code;
                size++;
            }
        }

        void endPart() {
            if (parts < PARTS) {
                ends[parts] = size;
                parts++;
            }
        }

        int value(int part, int[] facts) {
            int top = 0;
            for (int i = part == 0 ? 0 : ends[part - 1]; i < ends[part]; i++) {
                int code = codes[i];
                if (code >= 0) {
                    if (top >= TAPE || code - NAMES >= FACTS) {
                        return 0;
                    }
                    stack[top] = code < NAMES ? code : facts[code - NAMES];
                    top++;
                    continue;
                }
                if (code != NOT && code != NEGATE) {
                    top--;
                }
                if (top < 1) {
                    return 0;
                }
                int a = stack[top - 1];
                int b = stack[top];
                switch (code) {
                    case OR:
                        a = a != 0 || b != 0 ? 1 : 0;
                        break;
                    case AND:
                        a = a != 0 && b != 0 ? 1 : 0;
                        break;
                    case NOT:
                        a = a == 0 ? 1 : 0;
                        break;
                    case LESS:
                        a = a < b ? 1 : 0;
                        break;
                    case SAME:
                        a = a == b ? 1 : 0;
                        break;
                    case PLUS:
                        a = a + b;
                        break;
                    case MINUS:
                        a = a - b;
                        break;
                    case TIMES:
                        a = a * b;
                        break;
                    default:
                        a = -a;
                        break;
                }
                stack[top - 1] = a;
            }
            return stack[0];
        }
    }

    /** The tape, and how a text is understood from it. */
    private static final class Reader {
        int size;
        private final int[] letters = new int[TAPE];
        private final int[] tokens = new int[TAPE + 1];
        private final int[] starts = new int[TAPE + 1];
        private final int[] waiting = new int[TAPE];
        private int tokenCount;
        private int at;
        private int waits;
        private int open;

        boolean take(int letter) {
            if (size >= TAPE) {
                return false;
            }
            letters[size] = letter;
            size++;
            return true;
        }

        void clear() {
            size = 0;
        }

        /** The place of the fault, or NONE: then the tape stands in the text. */
        int read(Text into) {
            findTokens();
            into.clear();
            at = 0;
            for (int part = 0; part < PARTS; part++) {
                if (!readPart(KEY - part, into)) {
                    return placeOfToken();
                }
            }
            return isToken(END) ? NONE : placeOfToken();
        }

        /** Goes no further than the first token that is wrong by itself: no text gets past that one. */
        private void findTokens() {
            tokenCount = 0;
            int i = 0;
            while (i < size) {
                if (letters[i] == 32 || letters[i] == 10) {
                    i++;
                    continue;
                }
                int end = endOfToken(i);
                int found = tokenOf(i, end);
                addToken(found, i);
                if (found == WRONG) {
                    return;
                }
                i = end;
            }
            addToken(END, size);
        }

        private void addToken(int found, int start) {
            if (tokenCount <= TAPE) {
                tokens[tokenCount] = found;
                starts[tokenCount] = start;
                tokenCount++;
            }
        }

        private int endOfToken(int start) {
            int end = start + 1;
            if (isSmall(letters[start])) {
                while (end < size && isSmall(letters[end])) {
                    end++;
                }
            } else if (isDigit(letters[start])) {
                while (end < size && isDigit(letters[end])) {
                    end++;
                }
            }
            return end;
        }

        private int tokenOf(int start, int end) {
            if (isSmall(letters[start])) {
                return wordToken(start, end);
            }
            if (isDigit(letters[start])) {
                return numberToken(start, end);
            }
            int sign = SIGNS.indexOf((char) letters[start]);
            return sign < 0 ? WRONG : SIGN - sign;
        }

        private int numberToken(int start, int end) {
            if (end - start > MOST_DIGITS) {
                return WRONG;
            }
            int v = 0;
            for (int i = start; i < end; i++) {
                v = v * 10 + letters[i] - '0';
            }
            return v;
        }

        private int wordToken(int start, int end) {
            for (int w = 0; w < WORDS; w++) {
                if (isWord(wordOf(w), start, end)) {
                    return w < KEY_WORDS ? KEY - w : NAMES + w - KEY_WORDS;
                }
            }
            return WRONG;
        }

        private boolean isWord(String word, int start, int end) {
            if (word.length() != end - start) {
                return false;
            }
            for (int i = start; i < end; i++) {
                if (letters[i] != word.charAt(i - start)) {
                    return false;
                }
            }
            return true;
        }

        private static String wordOf(int w) {
            switch (w) {
                case 0:
                    return "goes";
                case 1:
                    return "frees";
                case 2:
                    return "draws";
                case 3:
                    return "or";
                case 4:
                    return "and";
                case 5:
                    return "not";
                case 6:
                    return "force";
                case 7:
                    return "number";
                case 8:
                    return "row";
                case 9:
                    return "column";
                case 10:
                    return "kin";
                default:
                    return "week";
            }
        }

        private static boolean isSmall(int letter) {
            return within(letter, 'a', 'z');
        }

        private static boolean isDigit(int letter) {
            return within(letter, '0', '9');
        }

        private boolean isToken(int wanted) {
            return at < tokenCount && tokens[at] == wanted;
        }

        private int placeOfToken() {
            return at < tokenCount ? starts[at] : size;
        }

        /** Whether key E ; stands there; if not, the token that can't stand there is the one at which it stops. */
        private boolean readPart(int key, Text into) {
            if (!isToken(key)) {
                return false;
            }
            waits = 0;
            open = 0;
            boolean oneIsDue = true;
            for (at++; at < tokenCount; at++) {
                int token = tokens[at];
                if (oneIsDue && token >= 0) {
                    into.add(token);
                    oneIsDue = false;
                } else if (oneIsDue) {
                    if (!opens(token)) {
                        return false;
                    }
                } else if (token == STOP) {
                    return ends(into);
                } else if (token == CLOSE) {
                    if (!closes(into)) {
                        return false;
                    }
                } else {
                    if (!joins(token, into)) {
                        return false;
                    }
                    oneIsDue = true;
                }
            }
            return false;
        }

        private boolean opens(int token) {
            boolean can = token == OPEN || token == MINUS || token == NOT && lastRank() <= rank(NOT);
            if (!can || open >= MOST_OPEN) {
                return false;
            }
            open++;
            putToWait(token == MINUS ? NEGATE : token);
            return true;
        }

        private boolean ends(Text into) {
            letGo(rank(OR), into);
            if (waits > 0) {
                return false;
            }
            into.endPart();
            at++;
            return true;
        }

        private boolean closes(Text into) {
            letGo(rank(OR), into);
            if (waits <= 0) {
                return false;
            }
            waits--;
            open--;
            return true;
        }

        /** Whether it can stand between two; only < and = can't follow one of their own rank. */
        private boolean joins(int token, Text into) {
            int rank = rank(token);
            if (rank < 0 || token == OPEN || token == NOT) {
                return false;
            }
            if (rank != rank(LESS)) {
                letGo(rank, into);
            } else {
                letGo(rank + 1, into);
                if (lastRank() == rank) {
                    return false;
                }
            }
            putToWait(token);
            return true;
        }

        private void putToWait(int code) {
            if (waits < TAPE) {
                waiting[waits] = code;
                waits++;
            }
        }

        /** What waits and binds no less than a rank has all that it belongs to. */
        private void letGo(int rank, Text into) {
            while (waits > 0 && lastRank() >= rank) {
                waits--;
                int code = waiting[waits];
                if (code == NOT || code == NEGATE) {
                    open--;
                }
                into.add(code);
            }
        }

        private int lastRank() {
            return waits > 0 ? rank(waiting[waits - 1]) : 0;
        }

        /** How strongly it binds; below 0: nothing that waits. */
        private static int rank(int code) {
            switch (code) {
                case OPEN:
                    return 0;
                case OR:
                    return 1;
                case AND:
                    return 2;
                case NOT:
                    return 3;
                case LESS:
                case SAME:
                    return 4;
                case PLUS:
                case MINUS:
                    return 5;
                case TIMES:
                    return 6;
                case NEGATE:
                    return 7;
                default:
                    return -1;
            }
        }
    }

    /** A row of numbers of a sort, or missing. */
    private static final class Sheet {
        final int[] items = new int[ITEMS];
        int sort = NONE;
        int size;

        boolean isMissing() {
            return sort == NONE;
        }

        void make(int newSort, int n) {
            for (int i = 0; i < ITEMS; i++) {
                items[i] = 0;
            }
            sort = newSort;
            size = Math.max(0, Math.min(ITEMS, n));
        }

        /** Whether n items from one on stand in it; said so that no sum can wrap. */
        boolean holds(int i, int n) {
            return i >= 0 && n >= 0 && n <= size && i <= size - n;
        }

        boolean put(int i, int v) {
            if (i < 0 || i >= size) {
                return false;
            }
            items[i] = sort == BYTES ? (byte) v : sort == SHORTS ? (short) v : v;
            return true;
        }
    }
}
