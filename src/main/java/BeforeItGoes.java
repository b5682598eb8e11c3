/**
 * Plaster that is put on WALLS, waited for and trowelled before it goes off, by a rule of TEXTS.
 *
 * <p>One site stands as told; every question is answered by a day lived on a copy of it, which may
 * be made otherwise ahead. All rows are made with the object and used again by every call.
 */
public final class BeforeItGoes {
    public static final int NONE = -1, BAD = -2, STATE = -3, FULL = -4;
    public static final long NO = -4611686018427387904L;

    private static final int NO_DAY = -100000;
    private static final int FAULTY = -100;
    private static final int NOTHING = -11, OUTSIDE = -12, UNLIKE = -13, BELOW_NONE = -14;

    private static final int WALLS = 6, KINDS = 6, TEXTS = 6, SHEETS = 4, SORTS = 3;
    private static final int SHEET_SIZE = 40, TAPE_SIZE = 160, MOST_OPEN = 5, MOST_DIGITS = 4;
    private static final int LAST_MINUTE = 4000, ORDERS = 720;

    private static final int WARM = 0, AGE = 1, DIRT = 2, HANDS = 3, GAP = 4, EAGER = 5;
    private static final int NUMBER = 6, YARDS = 7, WET = 8;
    private static final int[] LEAST = {0, 0, 0, 1, 0, 0, 0, 1, 0};
    private static final int[] MOST = {40, 9, 9, 2, 60, 20, 9, 20, 1};

    private static final int PLAIN_WALL = 0, BRICK = 1, PAINTED = 2, HOT = 3, GLUED = 4, CEILING = 5;

    // The three parts of a TEXT, in its order.
    private static final int RIPENS = 0, TAKES = 1, SPOILS = 2, PARTS = 3;
    private static final int[] PART_LEAST = {1, 1, 0};
    private static final int[] PART_MOST = {240, 20, 999};

    // TOKENS: words by these numbers, signs by their bytes (which are all above these).
    private static final int NAMES = 6, FIRST_NAME = 1, OFF_NAME = 5, LAST_NAME = 6;
    private static final int FIRST_KEY = 7, OR = 10, AND = 11, NOT = 12, LAST_KEY = 12;
    private static final int NUMERAL = 13, END = 14, WRONG = 15, NEGATE = 16;
    private static final String SIGNS = "();+-*<=";

    private static final String FIRST_RULE =
            "ripens 60 - warm - dirt * 4 - age * 2 ; takes 2 ; spoils off * off * yards ;";

    private final Site site = new Site();
    private final Site keptSite = new Site();
    private boolean hasImage = false;
    private final Tape tape = new Tape();
    private final Reader reader = new Reader(tape);
    private final Text[] texts = new Text[TEXTS];
    private int textCount = 0;
    private final Day trial = new Day(texts);
    private final Pick pick = new Pick();
    private final Sheet[] sheets = new Sheet[SHEETS];

    public BeforeItGoes() {
        for (int i = 0; i < TEXTS; i++) {
            texts[i] = new Text();
        }
        for (int i = 0; i < SHEETS; i++) {
            sheets[i] = new Sheet();
        }
        for (int i = 0; i < FIRST_RULE.length(); i++) {
            tape.add(FIRST_RULE.charAt(i));
        }
        learn();
    }

    // ---- the plaster, walls

    public int set(int what, int of, int v) {
        if (what < WARM || what > WET || v < LEAST[what] || v > MOST[what]) {
            return BAD;
        }
        boolean ofWall = what > EAGER;
        if (ofWall && !site.has(of)) {
            return BAD;
        }
        int[] row = site.rowOf(what);
        int place = ofWall ? of : what;
        int was = row[place];
        row[place] = v;
        return was;
    }

    public int wall(int kind, int number, int yards) {
        if (!isKind(kind) || number < LEAST[NUMBER] || number > MOST[NUMBER]
                || yards < LEAST[YARDS] || yards > MOST[YARDS]) {
            return BAD;
        }
        return site.add(kind, number, yards);
    }

    public int told(int wall, int what) {
        if (!site.has(wall)) {
            return BAD;
        }
        switch (what) {
            case 0: return site.kinds[wall];
            case 1: return site.numbers[wall];
            case 2: return site.yards[wall];
            case 3: return site.wets[wall];
            default: return reckoned(wall, what);
        }
    }

    private int reckoned(int wall, int what) {
        startTrial();
        trial.reckon();
        switch (what) {
            case 4: return trial.ripens[wall];
            case 5: return trial.lasts[wall];
            case 6: return trial.takes[wall];
            default: return BAD;
        }
    }

    private static boolean isKind(int kind) {
        return kind >= 0 && kind < KINDS;
    }

    // ---- texts

    public int feed(int letter) {
        if (letter < 0 || letter > 255) {
            return BAD;
        }
        return tape.add(letter);
    }

    public int text() {
        if (textCount >= TEXTS) {
            return FULL;
        }
        return learn();
    }

    private int learn() {
        int fault = reader.read();
        tape.clear();
        if (fault != NONE) {
            return FAULTY - fault;
        }
        if (textCount < 0 || textCount >= TEXTS || texts[textCount] == null) {
            return FULL;
        }
        texts[textCount].become(reader.draft);
        textCount++;
        return textCount - 1;
    }

    public int force(int text) {
        if (text < 0 || text >= textCount) {
            return BAD;
        }
        int was = site.rule;
        site.rule = text;
        return was;
    }

    // ---- days

    public int day(int what) {
        if (!isOfDay(what)) {
            return NO_DAY;
        }
        startTrial();
        trial.reckon();
        trial.live();
        return ofDay(what);
    }

    public int order(int sheet, int what) {
        Sheet row = sheetAt(sheet);
        if (row == null || !isOfDay(what) || !startOrder(row)) {
            return NO_DAY;
        }
        trial.reckon();
        trial.live();
        return ofDay(what);
    }

    /** Whether the SHEET tells each WALL once; the trial's order is the SHEET's then. */
    private boolean startOrder(Sheet row) {
        if (row.isMissing() || row.size != site.size) {
            return false;
        }
        startTrial();
        int seen = 0;
        for (int i = 0; i < site.size; i++) {
            int wall = row.items[i];
            if (!site.has(wall) || (seen >> wall & 1) == 1) {
                return false;
            }
            seen |= 1 << wall;
            trial.place(i, wall);
        }
        return true;
    }

    private boolean isOfDay(int what) {
        if (what < 10) {
            return what >= 0 && what <= 4;
        }
        return what < 50 && site.has(what % 10);
    }

    private int ofDay(int what) {
        switch (what) {
            case 0: return trial.bad;
            case 1: return trial.minute;
            case 2: return trial.waited;
            case 3: return trial.late();
            case 4: return trial.early();
            default: return ofWallsDay(what % 10, what / 10);
        }
    }

    private int ofWallsDay(int wall, int what) {
        if (!site.has(wall)) {
            return NO_DAY;
        }
        switch (what) {
            case 1: return trial.begun[wall];
            case 2: return trial.ripe[wall];
            case 3: return trial.trowelled[wall];
            case 4: return trial.off[wall];
            default: return NO_DAY;
        }
    }

    /** The trial's site is as the true one, and its order PLAIN. */
    private void startTrial() {
        trial.site.become(site);
        for (int i = 0; i < WALLS; i++) {
            trial.place(i, i);
        }
    }

    /** A PLAIN day, were one of WARM .. EAGER otherwise. */
    private void liveWith(int dial, int v) {
        startTrial();
        trial.site.turn(dial, v);
        trial.reckon();
        trial.live();
    }

    // ---- what would be best

    public int best(int what) {
        if (what < 0 || what > 2) {
            return BAD;
        }
        startTrial();
        trial.reckon();
        pick.clear();
        boolean more = true;
        for (int i = 0; i < ORDERS && more; i++) {
            trial.live();
            pick.offer(trial.rowAsDigits(), trial.bad, trial.minute);
            more = trial.nextRow();
        }
        switch (what) {
            case 0: return pick.bad;
            case 1: return pick.done;
            default: return pick.which;
        }
    }

    public int good(int sort, int what) {
        if (sort < 0 || sort > 1 || what < 0 || what > 2) {
            return BAD;
        }
        int dial = sort == 0 ? GAP : EAGER;
        pick.clear();
        for (int v = 0; v <= MOST[dial]; v++) {
            liveWith(dial, v);
            pick.offer(v, trial.bad, trial.minute);
        }
        switch (what) {
            case 0: return pick.which;
            case 1: return pick.bad;
            default: return pick.done;
        }
    }

    public int wetting(int c, int what) {
        if (c < 0 || c > 99 || what < 0 || what > 1) {
            return BAD;
        }
        pick.clear();
        for (int bits = 0; bits < 1 << site.size; bits++) {
            startTrial();
            trial.site.wetJust(bits);
            trial.reckon();
            trial.live();
            pick.offer(bits, trial.bad + c * Integer.bitCount(bits), 0);
        }
        return what == 0 ? pick.which : pick.bad;
    }

    public int alone() {
        for (int n = site.size; n > 0; n--) {
            startTrial();
            trial.site.size = n;
            trial.reckon();
            trial.live();
            if (trial.bad == 0) {
                return n;
            }
        }
        return 0;
    }

    // ---- were it otherwise

    public int tooWarm() {
        int least = NONE;
        for (int warm = MOST[WARM]; warm >= 0; warm--) {
            liveWith(WARM, warm);
            if (trial.late() == 0) {
                return least;
            }
            least = warm;
        }
        return least;
    }

    public int gains(int what) {
        switch (what) {
            case 0:
                liveWith(DIRT, MOST[DIRT]);
                int dirty = trial.bad;
                liveWith(DIRT, LEAST[DIRT]);
                return dirty - trial.bad;
            case 1:
                liveWith(HANDS, 1);
                int byOne = trial.minute;
                liveWith(HANDS, 2);
                return byOne - trial.minute;
            default:
                return NO_DAY;
        }
    }

    public int buckets(int b, int what) {
        if (b < 1 || b > 40 || what < 0 || what > 1) {
            return BAD;
        }
        startTrial();
        trial.reckon();
        trial.live();
        int mixed = 0, thrown = 0, left = 0, mixedAt = 0;
        for (int wall = 0; wall < site.size; wall++) {
            int begun = trial.begun[wall], yards = site.yards[wall];
            if (begun == NONE) {
                continue;
            }
            if (left < yards || begun - mixedAt > trial.ripens[wall]) {
                int fresh = (yards + b - 1) / b;
                thrown += left;
                mixed += fresh;
                left = fresh * b;
                mixedAt = begun;
            }
            left -= yards;
        }
        return what == 0 ? mixed : thrown + left;
    }

    // ---- books

    public int books(int sheet, int what) {
        Sheet row = sheetAt(sheet);
        if (row == null || what < 0 || what > 3 && what < 10 || what > 3 && !site.has(what - 10)) {
            return BAD;
        }
        if (row.isMissing()) {
            return NOTHING;
        }
        if (row.size != site.size) {
            return BAD;
        }
        switch (what) {
            case 0: return notSo(row);
            case 1: return (int) dialsOf(row, DIRT);
            case 2: return (int) dialsOf(row, AGE);
            case 3: return textsOf(row);
            default: return kindsOf(row, what - 10);
        }
    }

    public long warms(int sheet) {
        Sheet row = sheetAt(sheet);
        if (row == null || row.isMissing() || row.size != site.size) {
            return NO;
        }
        return dialsOf(row, WARM);
    }

    private int notSo(Sheet row) {
        startTrial();
        trial.reckon();
        trial.live();
        return trial.unlike(row);
    }

    private long dialsOf(Sheet row, int dial) {
        long bits = 0;
        for (int v = 0; v <= MOST[dial]; v++) {
            startTrial();
            trial.site.turn(dial, v);
            trial.reckon();
            trial.live();
            if (trial.unlike(row) == 0) {
                bits |= 1L << v;
            }
        }
        return bits;
    }

    private int textsOf(Sheet row) {
        int bits = 0;
        for (int text = 0; text < textCount; text++) {
            startTrial();
            trial.site.rule = text;
            trial.reckon();
            trial.live();
            if (trial.unlike(row) == 0) {
                bits |= 1 << text;
            }
        }
        return bits;
    }

    private int kindsOf(Sheet row, int wall) {
        int bits = 0;
        for (int kind = 0; kind < KINDS; kind++) {
            startTrial();
            if (site.has(wall)) {
                trial.site.kinds[wall] = kind;
            }
            trial.reckon();
            trial.live();
            if (trial.unlike(row) == 0) {
                bits |= 1 << kind;
            }
        }
        return bits;
    }

    public int film(int sheet) {
        Sheet row = sheetAt(sheet);
        if (row == null) {
            return BAD;
        }
        startTrial();
        trial.reckon();
        trial.live();
        row.become(SORTS - 1, site.size);
        for (int wall = 0; wall < site.size; wall++) {
            row.put(wall, trial.trowelled[wall]);
        }
        return site.size;
    }

    public int drawn(int seed) {
        liveWith(WARM, warmOf(seed));
        return trial.bad;
    }

    public long chance(int seed, int n, int part) {
        if (n < 1 || n > 20 || part < 0 || part > 1) {
            return NO;
        }
        int fine = 0;
        for (int i = 0; i < n; i++) {
            liveWith(WARM, warmOf(seed + i));
            if (trial.late() == 0) {
                fine++;
            }
        }
        int divisor = commonDivisor(n, fine);
        return part == 0 ? fine / divisor : n / divisor;
    }

    private static int warmOf(int seed) {
        int z = seed * 1103515245 + 12345;
        return (z >>> 9) % (MOST[WARM] + 1);
    }

    /** The greatest common divisor of n (1 .. 20) and another (0 .. n). */
    private static int commonDivisor(int n, int other) {
        for (int divisor = n; divisor > 1; divisor--) {
            if (n % divisor == 0 && other % divisor == 0) {
                return divisor;
            }
        }
        return 1;
    }

    public int image() {
        keptSite.become(site);
        hasImage = true;
        return site.size;
    }

    public int back() {
        if (!hasImage) {
            return STATE;
        }
        site.become(keptSite);
        return site.size;
    }

    public int count(int what) {
        switch (what) {
            case 0: return site.size;
            case 1: return site.dials[WARM];
            case 2: return site.dials[AGE];
            case 3: return site.dials[DIRT];
            case 4: return site.dials[HANDS];
            case 5: return site.dials[GAP];
            case 6: return site.dials[EAGER];
            case 7: return textCount;
            case 8: return tape.size;
            case 9: return site.rule;
            default: return BAD;
        }
    }

    // ---- the host

    public int sheet(int sheet, int sort, int n) {
        Sheet row = sheetAt(sheet);
        if (row == null || sort < NONE || sort >= SORTS) {
            return BAD;
        }
        if (sort == NONE) {
            row.become(NONE, 0);
            return 1;
        }
        if (n > SHEET_SIZE) {
            return BAD;
        }
        if (n < 0) {
            return BELOW_NONE;
        }
        row.become(sort, n);
        return 1;
    }

    public int cell(int sheet, int i, int v) {
        Sheet row = sheetAt(sheet);
        if (row == null) {
            return BAD;
        }
        if (row.isMissing()) {
            return NOTHING;
        }
        if (!row.has(i)) {
            return OUTSIDE;
        }
        row.put(i, v);
        return 1;
    }

    public int copy(int sheet, int i, int other, int j, int n) {
        Sheet from = sheetAt(sheet), to = sheetAt(other);
        if (from == null || to == null) {
            return BAD;
        }
        if (from.isMissing() || to.isMissing()) {
            return NOTHING;
        }
        if (from.sort != to.sort) {
            return UNLIKE;
        }
        if (!from.hasRun(i, n) || !to.hasRun(j, n)) {
            return OUTSIDE;
        }
        System.arraycopy(from.items, i, to.items, j, n);
        return n;
    }

    public int walls(int sheet, int sort, int from, int n) {
        Sheet row = sheetAt(sheet);
        if (row == null || sort < 0 || sort >= SORTS || n < 0 || n > WALLS) {
            return BAD;
        }
        if (row.isMissing()) {
            return NOTHING;
        }
        if (row.sort != sort) {
            return UNLIKE;
        }
        int came = 0;
        for (int i = 0; i < n; i++) {
            int at = from + 3 * i;
            if (!row.hasRun(at, 3)) {
                return OUTSIDE;
            }
            if (wall(row.items[at], row.items[at + 1], row.items[at + 2]) >= 0) {
                came++;
            }
        }
        return came;
    }

    public int taken(int wall, int k) {
        if (!isKind(k)) {
            return BAD;
        }
        if (!site.has(wall)) {
            return NOTHING;
        }
        return Kind.isUnder(site.kinds[wall], k) ? site.numbers[wall] : UNLIKE;
    }

    private Sheet sheetAt(int sheet) {
        return sheet >= 0 && sheet < SHEETS ? sheets[sheet] : null;
    }

    /** What the KINDS of WALLS make of what a TEXT tells; the bounds come in the end. */
    private static final class Kind {
        static int ripens(int kind, int number, boolean wet, int v) {
            int sucked = wet ? number : 3 * number;
            switch (kind) {
                case BRICK: return Math.max(1, v - sucked);
                case PAINTED: return Math.max(1, v + 2 * number);
                case HOT: return Math.max(1, (v - sucked) / 2);
                case GLUED: return Math.max(1, wet ? v : v + 2 * number);
                default: return Math.max(1, v);
            }
        }

        static int lasts(int kind, int number) {
            switch (kind) {
                case BRICK: return Math.max(0, 10 - number / 2);
                case HOT: return Math.max(0, 8 - number / 2);
                case GLUED: return 15;
                default: return 10;
            }
        }

        static int takes(int kind, int yards, int v) {
            switch (kind) {
                case HOT: return Math.max(1, yards * v + 3);
                case CEILING: return Math.max(1, 2 * yards * v);
                default: return Math.max(1, yards * v);
            }
        }

        static boolean isUnder(int kind, int other) {
            switch (other) {
                case PLAIN_WALL: return true;
                case BRICK: return kind == BRICK || kind == HOT;
                case PAINTED: return kind == PAINTED || kind == GLUED;
                default: return kind == other;
            }
        }
    }

    /** All that an IMAGE keeps: WARM .. EAGER, the WALLS, THE RULE. */
    private static final class Site {
        private final int[] dials = {18, 0, 0, 1, 0, 0};
        private final int[] kinds = new int[WALLS];
        private final int[] numbers = new int[WALLS];
        private final int[] yards = new int[WALLS];
        private final int[] wets = new int[WALLS];
        private int size = 0;
        private int rule = 0;

        boolean has(int wall) {
            return wall >= 0 && wall < size && wall < WALLS;
        }

        void turn(int dial, int v) {
            if (dial >= WARM && dial <= EAGER) {
                dials[dial] = v;
            }
        }

        int[] rowOf(int what) {
            switch (what) {
                case NUMBER: return numbers;
                case YARDS: return yards;
                case WET: return wets;
                default: return dials;
            }
        }

        int add(int kind, int number, int yardsOfIt) {
            if (size < 0 || size >= WALLS) {
                return FULL;
            }
            kinds[size] = kind;
            numbers[size] = number;
            yards[size] = yardsOfIt;
            wets[size] = 0;
            size++;
            return size - 1;
        }

        void wetJust(int bits) {
            for (int wall = 0; wall < WALLS; wall++) {
                wets[wall] = bits >> wall & 1;
            }
        }

        void become(Site other) {
            for (int dial = WARM; dial <= EAGER; dial++) {
                dials[dial] = other.dials[dial];
            }
            for (int wall = 0; wall < WALLS; wall++) {
                kinds[wall] = other.kinds[wall];
                numbers[wall] = other.numbers[wall];
                yards[wall] = other.yards[wall];
                wets[wall] = other.wets[wall];
            }
            size = other.size;
            rule = other.rule;
        }
    }

    /** A day on a site of its own, which may be made otherwise ahead of it. */
    private static final class Day {
        private final Site site = new Site();
        private final Text[] texts;
        private final int[] stack = new int[TAPE_SIZE];
        private final int[] names = new int[NAMES];
        private final int[] row = new int[WALLS];
        private final int[] ripens = new int[WALLS];
        private final int[] lasts = new int[WALLS];
        private final int[] takes = new int[WALLS];
        private final int[] begun = new int[WALLS];
        private final int[] ripe = new int[WALLS];
        private final int[] trowelled = new int[WALLS];
        private final int[] off = new int[WALLS];
        private int put, ended, minute, waited, bad;

        Day(Text[] texts) {
            this.texts = texts;
        }

        /** What THE RULE tells of each WALL ahead of the day, whatever the order. */
        void reckon() {
            for (int wall = 0; wall < site.size && wall < WALLS; wall++) {
                int kind = site.kinds[wall], number = site.numbers[wall];
                ripens[wall] = Kind.ripens(kind, number, site.wets[wall] == 1, tells(RIPENS, wall, 0));
                lasts[wall] = Kind.lasts(kind, number);
                takes[wall] = Kind.takes(kind, site.yards[wall], tells(TAKES, wall, 0));
            }
        }

        /** What a part of THE RULE tells of a WALL, within the part's bounds. */
        private int tells(int part, int wall, int offBy) {
            int rule = site.rule;
            if (rule < 0 || rule >= texts.length || texts[rule] == null) {
                return 0;
            }
            names[0] = site.dials[WARM];
            names[1] = site.dials[AGE];
            names[2] = site.dials[DIRT];
            names[3] = site.yards[wall];
            names[OFF_NAME - FIRST_NAME] = offBy;
            names[5] = site.numbers[wall];
            int value = texts[rule].value(part, names, stack);
            return Math.max(PART_LEAST[part], Math.min(PART_MOST[part], value));
        }

        /** The i-th in the order; nothing but a WALL's number ever comes into it. */
        void place(int i, int wall) {
            if (i >= 0 && i < WALLS && wall >= 0 && wall < WALLS) {
                row[i] = wall;
            }
        }

        /** A day by the row; reckon() is ahead of it. */
        void live() {
            dawn();
            for (int step = 0; step < LAST_MINUTE && ended < site.size && minute < LAST_MINUTE; step++) {
                int wall = firstRipe();
                if (wall != NONE) {
                    trowel(wall);
                } else if (mayBegin()) {
                    begin(row[put]);
                } else {
                    waitOn();
                }
            }
        }

        private void dawn() {
            put = 0;
            ended = 0;
            minute = 0;
            waited = 0;
            bad = 0;
            for (int wall = 0; wall < WALLS; wall++) {
                begun[wall] = NONE;
                ripe[wall] = NONE;
                trowelled[wall] = NONE;
                off[wall] = 0;
            }
        }

        /** The WALL to be trowelled now; of like ones the first in the row, which was put on first. */
        private int firstRipe() {
            int first = NONE;
            for (int i = 0; i < put && i < WALLS; i++) {
                int wall = row[i];
                if (trowelled[wall] == NONE && minute >= ripe[wall] - site.dials[EAGER]
                        && (first == NONE || ripe[wall] < ripe[first])) {
                    first = wall;
                }
            }
            return first;
        }

        private void trowel(int wall) {
            int tooLate = minute - (ripe[wall] + lasts[wall]), tooEarly = minute - ripe[wall];
            off[wall] = tooLate > 0 ? tooLate : tooEarly < 0 ? tooEarly : 0;
            if (off[wall] != 0) {
                bad += tells(SPOILS, wall, off[wall]);
            }
            trowelled[wall] = minute;
            minute += site.yards[wall];
            ended++;
        }

        private boolean mayBegin() {
            return put < site.size && put < WALLS && (put == 0 || minute >= nextBegins());
        }

        private int nextBegins() {
            return put > 0 && put <= WALLS ? begun[row[put - 1]] + site.dials[GAP] : 0;
        }

        private void begin(int wall) {
            int hands = Math.max(1, site.dials[HANDS]);
            begun[wall] = minute;
            minute += Math.max(1, takes[wall] / hands);
            ripe[wall] = minute + ripens[wall];
            put++;
        }

        /** Nothing else can be done before one is ripe or the next may begin: all those minutes at once. */
        private void waitOn() {
            int until = put < site.size ? Math.min(LAST_MINUTE, nextBegins()) : LAST_MINUTE;
            for (int i = 0; i < put && i < WALLS; i++) {
                int wall = row[i];
                if (trowelled[wall] == NONE) {
                    until = Math.min(until, ripe[wall] - site.dials[EAGER]);
                }
            }
            until = Math.max(until, minute + 1);
            waited += until - minute;
            minute = until;
        }

        int late() {
            int bits = 0;
            for (int wall = 0; wall < WALLS; wall++) {
                bits |= off[wall] > 0 ? 1 << wall : 0;
            }
            return bits;
        }

        int early() {
            int bits = 0;
            for (int wall = 0; wall < WALLS; wall++) {
                bits |= off[wall] < 0 ? 1 << wall : 0;
            }
            return bits;
        }

        /** The WALLS (bits) that were not trowelled when the SHEET tells. */
        int unlike(Sheet told) {
            int bits = 0;
            for (int wall = 0; wall < site.size && wall < WALLS; wall++) {
                bits |= trowelled[wall] != told.items[wall] ? 1 << wall : 0;
            }
            return bits;
        }

        int rowAsDigits() {
            int digits = 0;
            for (int i = 0; i < site.size && i < WALLS; i++) {
                digits = digits * 10 + row[i] + 1;
            }
            return digits;
        }

        /** The row becomes the next one, as digits go; false: it was the last. */
        boolean nextRow() {
            int size = Math.min(site.size, WALLS);
            int turn = size - 2;
            while (turn >= 0 && row[turn] > row[turn + 1]) {
                turn--;
            }
            if (turn < 0) {
                return false;
            }
            int with = size - 1;
            while (with > turn && row[with] < row[turn]) {
                with--;
            }
            swap(turn, with);
            for (int low = turn + 1, high = size - 1; low < high; low++, high--) {
                swap(low, high);
            }
            return true;
        }

        private void swap(int i, int j) {
            int was = row[i];
            row[i] = row[j];
            row[j] = was;
        }
    }

    /** Of all that is offered, what is least bad; of like ones what is done first; of like ones the first. */
    private static final class Pick {
        private boolean any = false;
        private int which, bad, done;

        void clear() {
            any = false;
        }

        void offer(int newWhich, int newBad, int newDone) {
            if (!any || newBad < bad || newBad == bad && newDone < done) {
                any = true;
                which = newWhich;
                bad = newBad;
                done = newDone;
            }
        }
    }

    /** A row of numbers, kept within what its sort holds. */
    private static final class Sheet {
        private final int[] items = new int[SHEET_SIZE];
        private int sort = NONE;
        private int size = 0;

        boolean isMissing() {
            return sort == NONE;
        }

        boolean has(int i) {
            return i >= 0 && i < size && i < SHEET_SIZE;
        }

        /** Whether n items from one on are all there; n may be 0, at the end too. */
        boolean hasRun(int i, int n) {
            return n >= 0 && n <= size && i >= 0 && i <= size - n;
        }

        void become(int newSort, int n) {
            sort = newSort;
            size = n;
            for (int i = 0; i < SHEET_SIZE; i++) {
                items[i] = 0;
            }
        }

        void put(int i, int v) {
            if (has(i)) {
                items[i] = sort == 0 ? (byte) v : sort == 1 ? (short) v : v;
            }
        }
    }

    /**
     * A TEXT as codes, each behind what it works on: a number is itself, a NAME or a sign is its
     * TOKEN below 0.
     */
    private static final class Text {
        private final int[] codes = new int[TAPE_SIZE];
        private final int[] ends = new int[PARTS + 1];
        private int size = 0;

        void clear() {
            size = 0;
        }

        void add(int code) {
            if (size >= 0 && size < TAPE_SIZE) {
                codes[size] = code;
                size++;
            }
        }

        void endPart(int part) {
            if (part >= 0 && part < PARTS) {
                ends[part + 1] = size;
            }
        }

        void become(Text other) {
            for (int i = 0; i < TAPE_SIZE; i++) {
                codes[i] = other.codes[i];
            }
            for (int i = 0; i <= PARTS; i++) {
                ends[i] = other.ends[i];
            }
            size = other.size;
        }

        int value(int part, int[] names, int[] stack) {
            if (part < 0 || part >= PARTS) {
                return 0;
            }
            int top = 0;
            for (int i = Math.max(0, ends[part]); i < ends[part + 1] && i < TAPE_SIZE; i++) {
                int code = codes[i];
                if (code >= -LAST_NAME) {
                    int name = -code - FIRST_NAME;
                    if (top < stack.length) {
                        stack[top] = code >= 0 ? code : name < names.length ? names[name] : 0;
                        top++;
                    }
                } else if (code == -NOT || code == -NEGATE) {
                    if (top > 0) {
                        stack[top - 1] = code == -NEGATE ? -stack[top - 1] : stack[top - 1] == 0 ? 1 : 0;
                    }
                } else if (top > 1) {
                    top--;
                    stack[top - 1] = joined(-code, stack[top - 1], stack[top]);
                }
            }
            return top > 0 ? stack[top - 1] : 0;
        }

        private static int joined(int sign, int left, int right) {
            switch (sign) {
                case '+': return left + right;
                case '-': return left - right;
                case '*': return left * right;
                case '<': return left < right ? 1 : 0;
                case '=': return left == right ? 1 : 0;
                case AND: return left != 0 && right != 0 ? 1 : 0;
                default: return left != 0 || right != 0 ? 1 : 0;
            }
        }
    }

    /** THE TAPE, and the TOKENS that it is cut into; the last of them is END, where the tape ends. */
    private static final class Tape {
        private final int[] bytes = new int[TAPE_SIZE];
        private int size = 0;
        private final int[] tokens = new int[TAPE_SIZE + 1];
        private final int[] starts = new int[TAPE_SIZE + 1];
        private final int[] numbers = new int[TAPE_SIZE + 1];
        private int last = 0;

        int add(int letter) {
            if (size < 0 || size >= TAPE_SIZE) {
                return FULL;
            }
            bytes[size] = letter;
            size++;
            return size;
        }

        void clear() {
            size = 0;
        }

        void cut() {
            last = 0;
            int at = 0;
            while (at < size && at < TAPE_SIZE && last < TAPE_SIZE) {
                int first = bytes[at], end = at + 1;
                if (first != 32 && first != 10) {
                    end = endOf(at);
                    tokens[last] = tokenOf(at, end);
                    starts[last] = at;
                    numbers[last] = tokens[last] == NUMERAL ? numberOf(at, end) : 0;
                    last++;
                }
                at = end;
            }
            tokens[last] = END;
            starts[last] = size;
        }

        /** The place behind the TOKEN that begins at one: that of a word, a number goes on while it can. */
        private int endOf(int at) {
            int end = at + 1;
            boolean letters = isLetter(bytes[at]), digits = isDigit(bytes[at]);
            while (end < size && end < TAPE_SIZE
                    && (letters && isLetter(bytes[end]) || digits && isDigit(bytes[end]))) {
                end++;
            }
            return end;
        }

        private int tokenOf(int at, int end) {
            int first = bytes[at];
            if (isDigit(first)) {
                return end - at > MOST_DIGITS ? WRONG : NUMERAL;
            }
            if (!isLetter(first)) {
                return SIGNS.indexOf((char) first) >= 0 ? first : WRONG;
            }
            for (int word = FIRST_NAME; word <= LAST_KEY; word++) {
                if (spells(wordOf(word), at, end)) {
                    return word;
                }
            }
            return WRONG;
        }

        private int numberOf(int at, int end) {
            int number = 0;
            for (int i = at; i < end && i < TAPE_SIZE; i++) {
                number = number * 10 + (bytes[i] - '0');
            }
            return number;
        }

        private boolean spells(String word, int at, int end) {
            if (word.length() != end - at) {
                return false;
            }
            for (int i = at; i < end && i < TAPE_SIZE; i++) {
                if (word.charAt(i - at) != bytes[i]) {
                    return false;
                }
            }
            return true;
        }

        private static boolean isLetter(int letter) {
            return letter >= 'a' && letter <= 'z';
        }

        private static boolean isDigit(int letter) {
            return letter >= '0' && letter <= '9';
        }

        private static String wordOf(int word) {
            switch (word) {
                case 1: return "warm";
                case 2: return "age";
                case 3: return "dirt";
                case 4: return "yards";
                case 5: return "off";
                case 6: return "number";
                case 7: return "ripens";
                case 8: return "takes";
                case 9: return "spoils";
                case OR: return "or";
                case AND: return "and";
                default: return "not";
            }
        }
    }

    /** Reads THE TAPE by the grammar of TEXTS, up to the first TOKEN that can't stand there. */
    private static final class Reader {
        private final Tape tape;
        private final Text draft = new Text();
        private int at, open, fault;

        Reader(Tape tape) {
            this.tape = tape;
        }

        /** NONE, and the draft is the TEXT; or the place of the FAULT. */
        int read() {
            open = 0;
            fault = NONE;
            draft.clear();
            at = 0;
            tape.cut();
            for (int part = 0; part < PARTS; part++) {
                expect(FIRST_KEY + part);
                readE();
                expect(';');
                draft.endPart(part);
            }
            expect(END);
            return fault;
        }

        /** Behind a FAULT no TOKEN is any: so all that is open comes to its end. */
        private boolean is(int token) {
            return token() == token;
        }

        private int token() {
            return fault == NONE && at >= 0 && at <= TAPE_SIZE ? tape.tokens[at] : WRONG;
        }

        private void next() {
            if (at < tape.last && at < TAPE_SIZE) {
                at++;
            }
        }

        private void fail() {
            if (fault == NONE) {
                fault = at >= 0 && at <= TAPE_SIZE ? tape.starts[at] : tape.size;
            }
        }

        private void expect(int token) {
            if (is(token)) {
                next();
            } else {
                fail();
            }
        }

        /** Whether one more ( , not or - may be open; it is, then, and the TOKEN behind it is read. */
        private boolean opens() {
            if (open >= MOST_OPEN) {
                fail();
                return false;
            }
            open++;
            next();
            return true;
        }

        private void readE() {
            readAnd();
            for (int i = 0; i < TAPE_SIZE && is(OR); i++) {
                next();
                readAnd();
                draft.add(-OR);
            }
        }

        private void readAnd() {
            readNot();
            for (int i = 0; i < TAPE_SIZE && is(AND); i++) {
                next();
                readNot();
                draft.add(-AND);
            }
        }

        private void readNot() {
            if (!is(NOT)) {
                readCompared();
            } else if (opens()) {
                readNot();
                open--;
                draft.add(-NOT);
            }
        }

        private void readCompared() {
            readSum();
            if (is('<') || is('=')) {
                int sign = token();
                next();
                readSum();
                draft.add(-sign);
            }
        }

        private void readSum() {
            readTerm();
            for (int i = 0; i < TAPE_SIZE && (is('+') || is('-')); i++) {
                int sign = token();
                next();
                readTerm();
                draft.add(-sign);
            }
        }

        private void readTerm() {
            readOne();
            for (int i = 0; i < TAPE_SIZE && is('*'); i++) {
                next();
                readOne();
                draft.add(-'*');
            }
        }

        private void readOne() {
            int token = token();
            if (token == NUMERAL) {
                draft.add(number());
                next();
            } else if (token >= FIRST_NAME && token <= LAST_NAME) {
                draft.add(-token);
                next();
            } else if (token == '-') {
                readMinus();
            } else if (token == '(') {
                readBracket();
            } else {
                fail();
            }
        }

        private int number() {
            return at >= 0 && at <= TAPE_SIZE ? tape.numbers[at] : 0;
        }

        private void readMinus() {
            if (opens()) {
                readOne();
                open--;
                draft.add(-NEGATE);
            }
        }

        private void readBracket() {
            if (opens()) {
                readE();
                expect(')');
                open--;
            }
        }
    }
}
