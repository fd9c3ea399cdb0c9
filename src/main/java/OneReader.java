import java.util.Arrays;

/** A dictionary with one reader; what each call answers stands in DOC.md. */
public final class OneReader {
    public static final int NONE = -1, BAD = -2, STATE = -3, FULL = -4;
    public static final long NO = -4611686018427387904L;

    private static final int NO_SUCH = -5, WRONG = -7;
    private static final int MISSING = -11, OUTSIDE = -12, UNLIKE = -13, BELOW_ZERO = -14;

    private static final int MOST_ENTRIES = 12, MOST_DEEDS = 6, MOST_TEXTS = 6, MOST_SHEETS = 4;
    private static final int MOST_CELLS = 40, MOST_BYTES = 160, MOST_OPEN = 5, MOST_DIGITS = 4;
    private static final int LAST_DAY = 999, LONGEST = 60, DAYS_AHEAD = 60, LAST_SEED = 99999;
    private static final int NEVER = -1, NEVER_BEHIND = 999, MOST_SAID = 99;

    private static final int READS = 0, HOLDS = 1, WORTH = 2;
    private static final int OF_WORTH = 0, OF_DEEDS = 1, OF_HELD = 2, OF_CAME = 3, OF_PAGE = 4;

    private static final int ENTRY = 0, HABIT = 1, FOREIGN = 2, SPRING = 3, HOUSEWORK = 4, TORN = 5;
    private static final int KINDS = 6, MORES = 10, AS_DEED = 6;

    /** What may be otherwise in thought. */
    private static final int NOTHING = 0, START = 1, MARK = 2, SKIP_TOO = 3, SKIP_ALONE = 4,
            SEND = 5, KIND = 6, MORE = 7, LAW = 8;

    /** A TOKEN that is a sign is its own byte; these are the others. */
    private static final int END = 0, NUMBER = 1, UNKNOWN = -1, NEGATE = 2, FIRST_WORD = 256;
    private static final int WORD_OR = 259, WORD_AND = 260, WORD_NOT = 261, FIRST_NAME = 262,
            NAME_WORDS = 266, AFTER_WORDS = 268;

    private static final long LOT_TIMES = 48271L, LOT_MODULO = 2147483647L;

    private final Book book;
    private final Book kept;
    private final Book thought;
    private final Grammar grammar;
    private final Sheet[] sheets;
    private final int[] tape;
    private int tapeSize;
    private int textCount;
    private boolean hasImage;

    public OneReader() {
        Law[] texts = new Law[MOST_TEXTS];
        texts[0] = firstText();
        textCount = 1;
        Reckoner reckoner = new Reckoner();
        book = new Book(texts, reckoner);
        kept = new Book(texts, reckoner);
        thought = new Book(texts, reckoner);
        grammar = new Grammar();
        sheets = new Sheet[MOST_SHEETS];
        for (int i = 0; i < MOST_SHEETS; i++) {
            sheets[i] = new Sheet();
        }
        tape = new int[MOST_BYTES];
    }

    // ---- the reader, the law

    public int count(int what) {
        switch (what) {
            case 0: return book.entries;
            case 1: return book.deedCount;
            case 2: return book.page;
            case 3: return book.day;
            case 4: return book.bookmark;
            case 5: return book.skips;
            case 6: return textCount;
            case 7: return book.law;
            case 8: return tapeSize;
            default: return BAD;
        }
    }

    public int set(int what, int v) {
        if (what < 0 || what > 3) {
            return NO_SUCH;
        }
        if (v < (what == 2 ? -1 : 0) || v > mostToSet(what)) {
            return WRONG;
        }
        int was = count(what + 2);
        switch (what) {
            case 0: book.page = v; break;
            case 1: book.day = v; break;
            case 2: book.bookmark = v; break;
            default: book.skips = v; break;
        }
        return was;
    }

    private int mostToSet(int what) {
        switch (what) {
            case 0: return Math.max(0, book.pages() - 1);
            case 1: return LAST_DAY;
            case 2: return book.entries - 1;
            default: return book.allEntries();
        }
    }

    public int feed(int n, int a, int b, int c, int d, int e) {
        if (n < 1 || n > 5 || !isByte(a) || !isByte(b) || !isByte(c) || !isByte(d) || !isByte(e)) {
            return BAD;
        }
        if (tapeSize > MOST_BYTES - n) {
            return FULL;
        }
        appendByte(a, n > 0);
        appendByte(b, n > 1);
        appendByte(c, n > 2);
        appendByte(d, n > 3);
        appendByte(e, n > 4);
        return tapeSize;
    }

    private static boolean isByte(int v) {
        return v >= 0 && v <= 255;
    }

    private void appendByte(int v, boolean wanted) {
        if (wanted && tapeSize >= 0 && tapeSize < tape.length) {
            tape[tapeSize] = v;
            tapeSize++;
        }
    }

    public int text() {
        if (textCount < 0 || textCount >= MOST_TEXTS) {
            return FULL;
        }
        Law law = grammar.lawOf(tape, tapeSize);
        tapeSize = 0;
        if (law == null) {
            return -100 - grammar.fault();
        }
        book.texts[textCount] = law;
        textCount++;
        return textCount - 1;
    }

    public int force(int t) {
        if (t < 0 || t >= textCount) {
            return BAD;
        }
        int was = book.law;
        book.law = t;
        return was;
    }

    public int asks(int part, int w, int many, int behind) {
        if (part < READS || part > WORTH || !book.has(w) || many < 0 || many > MOST_ENTRIES
                || behind < 0 || behind > NEVER_BEHIND) {
            return BAD;
        }
        return book.says(part, w, many, behind);
    }

    // ---- entries

    public int word(int kindMore, int many, int to) {
        if (kindMore < 0 || kindMore >= KINDS * 10 || many < 1 || many > LONGEST
                || to < -1 || to >= MOST_ENTRIES) {
            return BAD;
        }
        return book.add(kindMore, many, to) ? book.entries - 1 : FULL;
    }

    public int told(int w, int what) {
        if (!book.has(w)) {
            return NO_SUCH;
        }
        switch (what) {
            case 0: return book.kind[w];
            case 1: return book.more[w];
            case 2: return book.size[w];
            case 3: return book.to[w];
            case 4: return book.readOn[w];
            case 5: return book.takesOf(w);
            case 6: return book.first[w];
            case 7: return Kind.needsNext(book.kind[w]) ? 1 : 0;
            default: return WRONG;
        }
    }

    public int put(int w, int what, int v) {
        if (!book.has(w)) {
            return NO_SUCH;
        }
        if (what == 0 && v >= 1 && v <= LONGEST) {
            int was = book.size[w];
            book.size[w] = v;
            book.settle();
            return was;
        }
        if (what == 1 && v >= -1 && v < MOST_ENTRIES) {
            int was = book.to[w];
            book.to[w] = v;
            book.settle();
            return was;
        }
        return WRONG;
    }

    // ---- days, deeds

    public int live() {
        if (book.day >= LAST_DAY) {
            return FULL;
        }
        book.passDay();
        return book.came;
    }

    public int now(int what) {
        switch (what) {
            case 0: return book.held(book.itself());
            case 1: return book.came;
            case 2: return book.itself();
            default: return BAD;
        }
    }

    public int deed(int set) {
        if (set < 1 || set > book.allEntries()) {
            return BAD;
        }
        return book.addDeed(set) ? book.deedCount - 1 : FULL;
    }

    public int needs(int d) {
        return book.hasDeed(d) ? book.deeds[d] : NO_SUCH;
    }

    public int done(int what) {
        if (!isZeroOrOne(what)) {
            return BAD;
        }
        int can = book.canDo(book.held(book.itself()));
        return what == 0 ? can : book.worthOf(can);
    }

    public int run(int n, int what) {
        if (!isDays(n) || what < OF_WORTH || what > OF_PAGE) {
            return BAD;
        }
        think(NOTHING, 0, 0);
        return passDays(n, what, 0, 0);
    }

    public int when(int sort, int of, int n) {
        boolean there = sort == 0 ? book.has(of) : sort == 1 && book.hasDeed(of);
        if (!there) {
            return NO_SUCH;
        }
        if (!isDays(n)) {
            return WRONG;
        }
        think(NOTHING, 0, 0);
        for (int i = 0; i < n; i++) {
            thought.passDay();
            int held = thought.held(thought.itself());
            int all = sort == 0 ? held : thought.canDo(held);
            if ((all >> of & 1) == 1) {
                return i;
            }
        }
        return -1;
    }

    // ---- what is best

    public int begin(int n, int what) {
        if (!isDays(n) || !isZeroOrOne(what)) {
            return BAD;
        }
        int w = best(START, 0, 0, n, 1, -1);
        if (what == 0) {
            return w;
        }
        return w < 0 ? 0 : worthIf(START, 0, w, n);
    }

    public int lobby(int n, int what) {
        if (!isDays(n) || !isZeroOrOne(what)) {
            return BAD;
        }
        int asItIs = worthIf(NOTHING, 0, 0, n);
        int w = best(MARK, 0, 0, n, 1, asItIs);
        if (what == 0) {
            return w;
        }
        return w < 0 ? asItIs : worthIf(MARK, 0, w, n);
    }

    public int soup(int n, int what) {
        if (!isDays(n) || !isZeroOrOne(what)) {
            return BAD;
        }
        int asItIs = worthIf(NOTHING, 0, 0, n);
        int w = best(SKIP_TOO, 0, 0, n, -1, asItIs);
        if (what == 0) {
            return w;
        }
        return w < 0 ? asItIs : worthIf(SKIP_TOO, 0, w, n);
    }

    public int road(int w, int n, int what) {
        if (!book.has(w)) {
            return NO_SUCH;
        }
        if (!isDays(n) || !isZeroOrOne(what)) {
            return WRONG;
        }
        int asItIs = worthIf(NOTHING, 0, 0, n);
        int to = best(SEND, w, -1, n, 1, asItIs);
        if (what == 1) {
            return to < -1 ? asItIs : worthIf(SEND, w, to, n);
        }
        if (to < -1) {
            return -1;
        }
        return to < 0 ? -2 : to;
    }

    /** The first choice, of from .. ENTRIES less 1, that is best and better than the bound; from - 1: none is. */
    private int best(int change, int w, int from, int n, int sign, int bound) {
        int which = from - 1;
        int most = sign * bound;
        for (int v = from; v < book.entries; v++) {
            think(change, w, v);
            int worth = sign * passDays(n, OF_WORTH, 0, 0);
            if (worth > most) {
                most = worth;
                which = v;
            }
        }
        return which;
    }

    private int worthIf(int change, int w, int v, int n) {
        think(change, w, v);
        return passDays(n, OF_WORTH, 0, 0);
    }

    // ---- definitions

    public int chain(int w) {
        return book.has(w) ? book.chain[w] : NO_SUCH;
    }

    public int rings() {
        int bits = 0;
        for (int w = 0; w < book.entries; w++) {
            if (book.sendsToItself(w)) {
                bits |= 1 << w;
            }
        }
        return bits;
    }

    public int longest(int what) {
        if (!isZeroOrOne(what)) {
            return BAD;
        }
        int which = -1;
        int most = -1;
        for (int w = 0; w < book.entries; w++) {
            int many = Integer.bitCount(book.chain[w]);
            if (many > most) {
                most = many;
                which = w;
            }
        }
        return what == 0 ? which : most;
    }

    // ---- told days

    public int judge(int s) {
        int refusal = refusalOf(s);
        if (refusal != 0) {
            return refusal;
        }
        think(NOTHING, 0, 0);
        return firstOtherwise(sheets[s]);
    }

    public int begins(int s) {
        int refusal = refusalOf(s);
        return refusal != 0 ? refusal : fitting(sheets[s], START, 0, 0, book.entries);
    }

    public int kinds(int s, int w, int sort) {
        int refusal = refusalOf(s);
        if (refusal != 0) {
            return refusal;
        }
        if (!book.has(w)) {
            return NO_SUCH;
        }
        switch (sort) {
            case 0: return fitting(sheets[s], KIND, w, 0, KINDS);
            case 1: return fitting(sheets[s], MORE, w, 0, MORES);
            case 2: return fitting(sheets[s], SEND, w, -1, book.entries);
            default: return WRONG;
        }
    }

    public int skipped(int s) {
        int refusal = refusalOf(s);
        if (refusal != 0) {
            return refusal;
        }
        int none = fitting(sheets[s], SKIP_ALONE, 0, -1, 0);
        return none << MOST_ENTRIES | fitting(sheets[s], SKIP_ALONE, 0, 0, book.entries);
    }

    public int laws(int s) {
        int refusal = refusalOf(s);
        return refusal != 0 ? refusal : fitting(sheets[s], LAW, 0, 0, textCount);
    }

    public int film(int s, int n) {
        if (!isSheet(s) || n < 0 || n > MOST_CELLS) {
            return BAD;
        }
        sheets[s].become(1, n);
        think(NOTHING, 0, 0);
        for (int i = 0; i < n; i++) {
            thought.passDay();
            sheets[s].write(i, thought.held(thought.itself()));
        }
        return n;
    }

    /** What stands against reading a SHEET; 0: nothing. */
    private int refusalOf(int s) {
        if (!isSheet(s)) {
            return BAD;
        }
        return sheets[s].isMissing() ? MISSING : 0;
    }

    private int firstOtherwise(Sheet sheet) {
        for (int i = 0; i < sheet.size; i++) {
            thought.passDay();
            if (thought.held(thought.itself()) != sheet.cells[i]) {
                return i;
            }
        }
        return -1;
    }

    /** Bit v less from, for each v of from .. end - 1 by which all is as the SHEET tells. */
    private int fitting(Sheet sheet, int change, int w, int from, int end) {
        int bits = 0;
        for (int v = from; v < end; v++) {
            think(change, w, v);
            if (firstOtherwise(sheet) == -1) {
                bits |= 1 << (v - from);
            }
        }
        return bits;
    }

    // ---- days by lots

    public int drawn(int seed, int n, int oddsWhat) {
        if (!isSeed(seed) || !isDays(n) || oddsWhat < 0 || oddsWhat / 10 > 100 || oddsWhat % 10 > OF_PAGE) {
            return BAD;
        }
        think(NOTHING, 0, 0);
        return passDays(n, oddsWhat % 10, seed, oddsWhat / 10);
    }

    public long odds(int seed, int daysSeeds, int w, int odds, int part) {
        int seeds = daysSeeds % 100;
        if (!isSeed(seed) || daysSeeds < 0 || !isDays(daysSeeds / 100) || seeds < 1 || seeds > 30
                || !book.has(w) || odds < 0 || odds > 100 || !isZeroOrOne(part)) {
            return NO;
        }
        int above = 0;
        for (int i = 0; i < seeds; i++) {
            think(NOTHING, 0, 0);
            above += passDays(daysSeeds / 100, OF_HELD, seed + i, odds) >> w & 1;
        }
        return inLowestTerms(part == 0 ? above : seeds, above, seeds);
    }

    private static int inLowestTerms(int asked, int above, int below) {
        for (int d = below; d > 1; d--) {
            if (above % d == 0 && below % d == 0) {
                return asked / d;
            }
        }
        return asked;
    }

    public int image() {
        kept.takeFrom(book);
        hasImage = true;
        return book.entries;
    }

    public int back() {
        if (!hasImage) {
            return STATE;
        }
        book.takeFrom(kept);
        return book.entries;
    }

    // ---- the host

    public int sheet(int s, int sort, int n) {
        if (!isSheet(s) || sort < -1 || sort > 2) {
            return BAD;
        }
        if (sort == -1) {
            sheets[s].become(-1, 0);
            return 1;
        }
        if (n > MOST_CELLS) {
            return BAD;
        }
        if (n < 0) {
            return BELOW_ZERO;
        }
        sheets[s].become(sort, n);
        return 1;
    }

    public int cell(int s, int i, int v) {
        int refusal = refusalOf(s);
        if (refusal != 0) {
            return refusal;
        }
        if (i < 0 || i >= sheets[s].size) {
            return OUTSIDE;
        }
        sheets[s].write(i, v);
        return 1;
    }

    public int copy(int s, int i, int other, int j, int n) {
        if (!isSheet(s) || !isSheet(other)) {
            return BAD;
        }
        if (sheets[s].isMissing() || sheets[other].isMissing()) {
            return MISSING;
        }
        if (sheets[s].sort != sheets[other].sort) {
            return UNLIKE;
        }
        if (!sheets[s].hasRow(i, n) || !sheets[other].hasRow(j, n)) {
            return OUTSIDE;
        }
        System.arraycopy(sheets[s].cells, i, sheets[other].cells, j, n);
        return n;
    }

    public int wordsBy(int s, int sort, int from, int n) {
        if (!isSheet(s) || sort < 0 || sort > 2 || n < 0 || n > MOST_ENTRIES) {
            return BAD;
        }
        Sheet sheet = sheets[s];
        if (sheet.isMissing()) {
            return MISSING;
        }
        if (sheet.sort != sort) {
            return UNLIKE;
        }
        int came = 0;
        for (int k = 0; k < n; k++) {
            // the first place is looked at ahead of the sum, which could wrap
            if (from < 0 || from > MOST_CELLS || !sheet.hasRow(from + 3 * k, 3)) {
                return OUTSIDE;
            }
            int at = from + 3 * k;
            if (word(sheet.cells[at], sheet.cells[at + 1], sheet.cells[at + 2]) >= 0) {
                came++;
            }
        }
        return came;
    }

    public long taken(int i, int kind) {
        if (kind < 0 || kind > AS_DEED) {
            return BAD;
        }
        if (i < 0 || i >= MOST_ENTRIES + MOST_DEEDS) {
            return OUTSIDE;
        }
        boolean isDeed = i >= MOST_ENTRIES;
        if (isDeed ? !book.hasDeed(i - MOST_ENTRIES) : !book.has(i)) {
            return MISSING;
        }
        if (isDeed) {
            return kind == AS_DEED ? book.deeds[i - MOST_ENTRIES] : UNLIKE;
        }
        return Kind.isA(book.kind[i], kind) ? i : UNLIKE;
    }

    // ---- what several calls share

    private static boolean isZeroOrOne(int what) {
        return what == 0 || what == 1;
    }

    private static boolean isDays(int n) {
        return n >= 0 && n <= DAYS_AHEAD;
    }

    private static boolean isSeed(int seed) {
        return seed >= 0 && seed <= LAST_SEED;
    }

    private static boolean isSheet(int s) {
        return s >= 0 && s < MOST_SHEETS;
    }

    private static Law firstText() {
        int[] code = {10, 1, 5, -NAME_WORDS, -'+'};
        return new Law(code, 1, 2);
    }

    /** From here on all is in thought as it is, but for one change. */
    private void think(int change, int w, int v) {
        thought.takeFrom(book);
        if (w < 0 || w >= MOST_ENTRIES) {
            return;
        }
        switch (change) {
            case START: thought.page = thought.firstOf(v); thought.bookmark = NONE; break;
            case MARK: thought.bookmark = v; break;
            case SKIP_TOO: thought.skips |= 1 << v; break;
            case SKIP_ALONE: thought.skips = v < 0 ? 0 : 1 << v; break;
            case LAW: thought.law = v; break;
            case SEND: thought.to[w] = v; thought.settle(); break;
            case KIND: thought.kind[w] = v; thought.settle(); break;
            case MORE: thought.more[w] = v; thought.settle(); break;
            default: break;
        }
    }

    /** n DAYS of the thought by TURNING BACK; by odds of 0 they are plain DAYS. */
    private int passDays(int n, int what, int seed, int odds) {
        long lot = seed + 1L;
        int worth = 0;
        int done = 0;
        int helds = 0;
        int came = 0;
        for (int i = 0; i < n; i++) {
            lot = lot * LOT_TIMES % LOT_MODULO;
            if (i > 0 && lot % 100 < odds) {
                thought.page = thought.began;
            }
            thought.passDay();
            int held = thought.held(thought.itself());
            int can = thought.canDo(held);
            worth += what == OF_WORTH ? thought.worthOf(can) : 0;
            done |= can;
            helds |= held;
            came |= thought.came;
        }
        switch (what) {
            case OF_WORTH: return worth;
            case OF_DEEDS: return done;
            case OF_HELD: return helds;
            case OF_CAME: return came;
            default: return thought.page;
        }
    }

    /** What the KINDS of ENTRIES do. */
    private static final class Kind {
        /** The KIND above each; -1: none. */
        private static final int[] ABOVE = {-1, 0, 0, 1, 2, 0};

        private Kind() {
        }

        static boolean isA(int kind, int other) {
            int up = kind;
            for (int i = 0; i < KINDS && up >= 0 && up < KINDS; i++) {
                if (up == other) {
                    return true;
                }
                up = ABOVE[up];
            }
            return false;
        }

        static boolean needsNext(int kind) {
            return !isA(kind, FOREIGN);
        }

        static int takes(int kind, int more, int size) {
            if (isA(kind, FOREIGN)) {
                return size + more / 3;
            }
            return kind == TORN ? Math.max(1, size / 2) : size;
        }

        static boolean holds(int kind, int more, boolean read, boolean yes, int behind, int day) {
            boolean asEntry = read && yes;
            switch (kind) {
                case HABIT: return asHabit(more, asEntry, yes, behind);
                case SPRING: return day % 10 == more
                        || day % 10 >= more / 2 && asHabit(more, asEntry, yes, behind);
                case HOUSEWORK: return asEntry || more > 4;
                case TORN: return asEntry && behind % 2 == more % 2;
                default: return asEntry;
            }
        }

        private static boolean asHabit(int more, boolean asEntry, boolean yes, int behind) {
            return asEntry || yes && behind <= more;
        }
    }

    /** ENTRIES, DEEDS and where the reader is: as it is, as it was kept, as it is thought. */
    private static final class Book {
        final int[] kind = new int[MOST_ENTRIES];
        final int[] more = new int[MOST_ENTRIES];
        final int[] size = new int[MOST_ENTRIES];
        final int[] to = new int[MOST_ENTRIES];
        final int[] readOn = new int[MOST_ENTRIES];
        /** The first PAGE of each ENTRY; behind them, how many PAGES there are. */
        final int[] first = new int[MOST_ENTRIES + 1];
        final int[] chain = new int[MOST_ENTRIES];
        final int[] deeds = new int[MOST_DEEDS];
        int entries;
        int deedCount;
        int page;
        int day;
        int bookmark = NONE;
        int skips;
        int came;
        int law;
        /** The PAGE on which he BEGAN the last DAY, where turning back leads. */
        int began;
        /** All Books look into the one row, so that a new TEXT is there in thought, too. */
        final Law[] texts;
        private final Reckoner reckoner;

        Book(Law[] texts, Reckoner reckoner) {
            this.texts = texts;
            this.reckoner = reckoner;
        }

        void takeFrom(Book other) {
            System.arraycopy(other.kind, 0, kind, 0, MOST_ENTRIES);
            System.arraycopy(other.more, 0, more, 0, MOST_ENTRIES);
            System.arraycopy(other.size, 0, size, 0, MOST_ENTRIES);
            System.arraycopy(other.to, 0, to, 0, MOST_ENTRIES);
            System.arraycopy(other.readOn, 0, readOn, 0, MOST_ENTRIES);
            System.arraycopy(other.first, 0, first, 0, MOST_ENTRIES + 1);
            System.arraycopy(other.chain, 0, chain, 0, MOST_ENTRIES);
            System.arraycopy(other.deeds, 0, deeds, 0, MOST_DEEDS);
            entries = other.entries;
            deedCount = other.deedCount;
            page = other.page;
            day = other.day;
            bookmark = other.bookmark;
            skips = other.skips;
            came = other.came;
            law = other.law;
        }

        boolean has(int w) {
            return w >= 0 && w < entries && w < MOST_ENTRIES;
        }

        boolean hasDeed(int d) {
            return d >= 0 && d < deedCount && d < MOST_DEEDS;
        }

        int allEntries() {
            return (1 << entries) - 1;
        }

        int pages() {
            return firstOf(entries);
        }

        int firstOf(int w) {
            return w >= 0 && w < first.length ? first[w] : 0;
        }

        int takesOf(int w) {
            return has(w) ? Kind.takes(kind[w], more[w], size[w]) : 0;
        }

        boolean add(int kindMore, int many, int sendsTo) {
            int w = entries;
            if (w < 0 || w >= MOST_ENTRIES) {
                return false;
            }
            kind[w] = kindMore / 10;
            more[w] = kindMore % 10;
            size[w] = many;
            to[w] = sendsTo;
            readOn[w] = NEVER;
            entries++;
            settle();
            return true;
        }

        boolean addDeed(int set) {
            if (deedCount < 0 || deedCount >= MOST_DEEDS) {
                return false;
            }
            deeds[deedCount] = set;
            deedCount++;
            return true;
        }

        /** What follows from the ENTRIES alone is reckoned once, not DAY by DAY. */
        void settle() {
            int sum = 0;
            for (int w = 0; w < entries; w++) {
                first[w] = sum;
                sum += takesOf(w);
                chain[w] = chainOf(w);
            }
            first[entries] = sum;
        }

        private int chainOf(int w) {
            int bits = 0;
            int at = w;
            for (int i = 0; i < MOST_ENTRIES && has(at) && (bits >> at & 1) == 0; i++) {
                bits |= 1 << at;
                at = Kind.needsNext(kind[at]) ? to[at] : NONE;
            }
            return bits;
        }

        boolean sendsToItself(int w) {
            int at = w;
            for (int i = 0; i < MOST_ENTRIES && has(at); i++) {
                at = to[at];
                if (at == w) {
                    return true;
                }
            }
            return false;
        }

        void passDay() {
            day++;
            came = 0;
            began = page;
            int total = pages();
            if (total > 0) {
                began = has(bookmark) ? first[bookmark] : page % total;
                bookmark = NONE;
                int many = Math.min(says(READS, entryOn(began), 0, 0), total);
                readPages(began, many, total);
                page = (began + many) % total;
            }
        }

        private int entryOn(int place) {
            for (int w = 0; w < entries; w++) {
                if (place < first[w + 1]) {
                    return w;
                }
            }
            return NONE;
        }

        private void readPages(int from, int many, int total) {
            for (int w = 0; w < entries; w++) {
                // behind the last PAGE the first one follows, so an ENTRY may also lie a whole book further on
                boolean any = many > 0 && (liesIn(w, from, from + many)
                        || liesIn(w, from - total, from + many - total));
                if (any && (skips >> w & 1) == 0) {
                    came |= 1 << w;
                    readOn[w] = day;
                }
            }
        }

        private boolean liesIn(int w, int from, int end) {
            return first[w] < end && first[w + 1] > from;
        }

        int says(int part, int w, int words, int behind) {
            if (!has(w) || law < 0 || law >= texts.length) {
                return 0;
            }
            reckoner.about(day, more[w], size[w], w, words, behind);
            int v = reckoner.value(texts[law], part);
            if (part == HOLDS) {
                return v != 0 ? 1 : 0;
            }
            return Math.max(0, Math.min(MOST_SAID, v));
        }

        private int behindOf(int w) {
            return readOn[w] == NEVER ? NEVER_BEHIND : Math.max(0, day - readOn[w]);
        }

        /** ENTRIES that HOLD BY THEMSELVES. */
        int itself() {
            int bits = 0;
            int words = Integer.bitCount(came);
            for (int w = 0; w < entries; w++) {
                int behind = behindOf(w);
                boolean read = readOn[w] == day;
                // a text is dear to ask, and no KIND heeds it otherwise
                boolean yes = (read || behind <= more[w]) && says(HOLDS, w, words, behind) != 0;
                if (Kind.holds(kind[w], more[w], read, yes, behind, day)) {
                    bits |= 1 << w;
                }
            }
            return bits;
        }

        /** ENTRIES that HOLD, by those that HOLD BY THEMSELVES. */
        int held(int itself) {
            int bits = 0;
            for (int w = 0; w < entries; w++) {
                if ((chain[w] & ~itself) == 0) {
                    bits |= 1 << w;
                }
            }
            return bits;
        }

        /** DEEDS that can be DONE, by ENTRIES that HOLD. */
        int canDo(int held) {
            int bits = 0;
            for (int d = 0; d < deedCount; d++) {
                if ((deeds[d] & ~held) == 0) {
                    bits |= 1 << d;
                }
            }
            return bits;
        }

        int worthOf(int can) {
            int worth = 0;
            for (int d = 0; d < deedCount; d++) {
                if ((can >> d & 1) == 1) {
                    worth += says(WORTH, lowest(deeds[d]), Integer.bitCount(deeds[d]), 0);
                }
            }
            return worth;
        }

        private static int lowest(int set) {
            for (int w = 0; w < MOST_ENTRIES; w++) {
                if ((set >> w & 1) == 1) {
                    return w;
                }
            }
            return NONE;
        }
    }

    /** A TEXT, its parts one behind the other: a NUMBER as it is, else less than 0 the TOKEN, behind what it joins. */
    private static final class Law {
        private final int[] code;
        private final int holdsAt;
        private final int worthAt;

        Law(int[] code, int holdsAt, int worthAt) {
            this.code = code;
            this.holdsAt = holdsAt;
            this.worthAt = worthAt;
        }

        int startOf(int part) {
            if (part == READS) {
                return 0;
            }
            return part == HOLDS ? holdsAt : worthAt;
        }

        int endOf(int part) {
            if (part == READS) {
                return holdsAt;
            }
            return part == HOLDS ? worthAt : code.length;
        }

        int codeAt(int i) {
            return i >= 0 && i < code.length ? code[i] : 0;
        }
    }

    /** Reckons what a TEXT says; what it says it of is told ahead. */
    private static final class Reckoner {
        private final int[] stack = new int[MOST_BYTES];
        private final int[] names = new int[AFTER_WORDS - FIRST_NAME];

        void about(int day, int more, int pages, int entry, int words, int behind) {
            names[0] = day;
            names[1] = more;
            names[2] = pages;
            names[3] = entry;
            names[4] = words;
            names[5] = behind;
        }

        int value(Law law, int part) {
            if (law == null) {
                return 0;
            }
            int depth = 0;
            int end = law.endOf(part);
            for (int i = law.startOf(part); i < end; i++) {
                int code = law.codeAt(i);
                int name = -code - FIRST_NAME;
                boolean isName = name >= 0 && name < names.length;
                if (code < 0 && !isName) {
                    depth = act(-code, depth);
                } else if (depth < stack.length) {
                    stack[depth] = isName ? names[name] : code;
                    depth++;
                }
            }
            return depth > 0 ? stack[0] : 0;
        }

        /** How many values stand there afterwards. */
        private int act(int sign, int depth) {
            int operands = sign == NEGATE || sign == WORD_NOT ? 1 : 2;
            if (depth < operands || depth > stack.length) {
                return depth;
            }
            int a = stack[depth - operands];
            int b = stack[depth - 1];
            int made;
            switch (sign) {
                case NEGATE: made = -b; break;
                case WORD_NOT: made = b == 0 ? 1 : 0; break;
                case '+': made = a + b; break;
                case '-': made = a - b; break;
                case '*': made = a * b; break;
                case '<': made = a < b ? 1 : 0; break;
                case '=': made = a == b ? 1 : 0; break;
                case WORD_AND: made = a != 0 && b != 0 ? 1 : 0; break;
                default: made = a != 0 || b != 0 ? 1 : 0; break;
            }
            stack[depth - operands] = made;
            return depth - operands + 1;
        }
    }

    /** THE TAPE's bytes as TOKENS, the last one END; what can begin none, or is none, is UNKNOWN. */
    private static final class Tokens {
        private final int[] tokens = new int[MOST_BYTES + 1];
        private final int[] places = new int[MOST_BYTES + 1];
        private final int[] numbers = new int[MOST_BYTES + 1];
        private int many;

        int tokenAt(int i) {
            return i >= 0 && i < many ? tokens[i] : END;
        }

        int placeAt(int i) {
            return i >= 0 && i < many ? places[i] : 0;
        }

        int numberAt(int i) {
            return i >= 0 && i < many ? numbers[i] : 0;
        }

        void scan(int[] tape, int size) {
            many = 0;
            int end = Math.min(size, tape.length);
            int at = 0;
            for (int i = 0; i < MOST_BYTES && at < end; i++) {
                int next = endOfToken(tape, at, end);
                if (!isBlank(tape[at])) {
                    append(tokenOf(tape, at, next), at, numberOf(tape, at, next));
                }
                at = next;
            }
            append(END, size, 0);
        }

        private void append(int token, int place, int number) {
            if (many >= 0 && many < tokens.length) {
                tokens[many] = token;
                places[many] = place;
                numbers[many] = number;
                many++;
            }
        }

        private static int endOfToken(int[] tape, int from, int end) {
            boolean letters = isLetter(tape[from]);
            boolean digits = isDigit(tape[from]);
            int at = from + 1;
            while (at < end && (letters && isLetter(tape[at]) || digits && isDigit(tape[at]))) {
                at++;
            }
            return at;
        }

        private static int tokenOf(int[] tape, int from, int end) {
            if (isLetter(tape[from])) {
                return wordOf(tape, from, end);
            }
            if (isDigit(tape[from])) {
                return end - from > MOST_DIGITS ? UNKNOWN : NUMBER;
            }
            return isSign(tape[from]) ? tape[from] : UNKNOWN;
        }

        private static int numberOf(int[] tape, int from, int end) {
            int number = 0;
            for (int i = from; i < end; i++) {
                number = number * 10 + tape[i] - '0';
            }
            return number;
        }

        private static int wordOf(int[] tape, int from, int end) {
            for (int word = FIRST_WORD; word < AFTER_WORDS; word++) {
                if (isSpelled(spelling(word), tape, from, end)) {
                    return word;
                }
            }
            return UNKNOWN;
        }

        private static boolean isSpelled(String letters, int[] tape, int from, int end) {
            if (letters.length() != end - from) {
                return false;
            }
            for (int i = 0; i < letters.length(); i++) {
                if (letters.charAt(i) != tape[from + i]) {
                    return false;
                }
            }
            return true;
        }

        private static String spelling(int word) {
            switch (word - FIRST_WORD) {
                case 0: return "reads";
                case 1: return "holds";
                case 2: return "worth";
                case 3: return "or";
                case 4: return "and";
                case 5: return "not";
                case 6: return "day";
                case 7: return "more";
                case 8: return "pages";
                case 9: return "entry";
                case 10: return "words";
                default: return "behind";
            }
        }

        private static boolean isBlank(int b) {
            return b == 32 || b == 10;
        }

        private static boolean isLetter(int b) {
            return b >= 'a' && b <= 'z';
        }

        private static boolean isDigit(int b) {
            return b >= '0' && b <= '9';
        }

        private static boolean isSign(int b) {
            switch (b) {
                case '(': case ')': case ';': case '+': case '-': case '*': case '<': case '=': return true;
                default: return false;
            }
        }
    }

    /** Makes a TEXT of TOKENS. */
    private static final class Grammar {
        private final Tokens tokens = new Tokens();
        private final int[] code = new int[MOST_BYTES];
        private int length;
        private int at;
        private int token;
        private int open;
        private int fault;

        int fault() {
            return fault;
        }

        /** The TEXT; null, if there is a FAULT. */
        Law lawOf(int[] tape, int size) {
            tokens.scan(tape, size);
            at = 0;
            token = tokens.tokenAt(0);
            open = 0;
            fault = -1;
            length = 0;
            readPart(READS);
            int holdsAt = length;
            readPart(HOLDS);
            int worthAt = length;
            readPart(WORTH);
            if (token != END) {
                fail();
            }
            return fault < 0 ? new Law(Arrays.copyOf(code, length), holdsAt, worthAt) : null;
        }

        private void next() {
            at++;
            token = tokens.tokenAt(at);
        }

        /** The first FAULT stays, and no TOKEN fits behind it. */
        private void fail() {
            if (fault < 0) {
                fault = tokens.placeAt(at);
            }
            token = UNKNOWN;
        }

        private void expect(int wanted) {
            if (token == wanted) {
                next();
            } else {
                fail();
            }
        }

        /** Past a (, a not or a -, if one more may be open. */
        private boolean enter() {
            if (open >= MOST_OPEN) {
                fail();
                return false;
            }
            open++;
            next();
            return true;
        }

        private void emit(int one) {
            if (length >= 0 && length < code.length) {
                code[length] = one;
                length++;
            }
        }

        private void readPart(int part) {
            expect(FIRST_WORD + part);
            readOr();
            expect(';');
        }

        private void readOr() {
            readAnd();
            for (int i = 0; i < MOST_BYTES && token == WORD_OR; i++) {
                next();
                readAnd();
                emit(-WORD_OR);
            }
        }

        private void readAnd() {
            readNot();
            for (int i = 0; i < MOST_BYTES && token == WORD_AND; i++) {
                next();
                readNot();
                emit(-WORD_AND);
            }
        }

        private void readNot() {
            if (token == WORD_NOT) {
                if (enter()) {
                    readNot();
                    open--;
                    emit(-WORD_NOT);
                }
                return;
            }
            readSum();
            if (token == '<' || token == '=') {
                int sign = token;
                next();
                readSum();
                emit(-sign);
            }
        }

        private void readSum() {
            readTerm();
            for (int i = 0; i < MOST_BYTES && (token == '+' || token == '-'); i++) {
                int sign = token;
                next();
                readTerm();
                emit(-sign);
            }
        }

        private void readTerm() {
            readOne();
            for (int i = 0; i < MOST_BYTES && token == '*'; i++) {
                next();
                readOne();
                emit(-'*');
            }
        }

        private void readOne() {
            if (token == NUMBER) {
                emit(tokens.numberAt(at));
                next();
            } else if (token >= FIRST_NAME && token < AFTER_WORDS) {
                emit(-token);
                next();
            } else if (token == '-') {
                if (enter()) {
                    readOne();
                    open--;
                    emit(-NEGATE);
                }
            } else if (token == '(') {
                if (enter()) {
                    readOr();
                    open--;
                    expect(')');
                }
            } else {
                fail();
            }
        }
    }

    /** A row of numbers, or a missing one. */
    private static final class Sheet {
        final int[] cells = new int[MOST_CELLS];
        int sort = -1;
        int size;

        boolean isMissing() {
            return sort == -1;
        }

        void become(int newSort, int n) {
            Arrays.fill(cells, 0);
            sort = newSort;
            size = Math.max(0, Math.min(n, MOST_CELLS));
        }

        boolean hasRow(int from, int n) {
            return n >= 0 && from >= 0 && from <= size - n;
        }

        void write(int i, int v) {
            if (i >= 0 && i < cells.length) {
                cells[i] = sort == 0 ? (byte) v : sort == 1 ? (short) v : v;
            }
        }
    }
}
