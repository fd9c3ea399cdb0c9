import java.util.function.Supplier;

/** Promises 18 to 32: each sentence that names a boundary. */
public final class ThoughtBoundsTest {
    private static final int V = Bound.V, MIN = Bound.MIN, MAX = Bound.MAX;

    public static void main(String[] args) {
        daysAndWhat();
        begin();
        lobby();
        soup();
        road();
        chain();
        rings();
        longest();
        sheetsTold();
        judge();
        begins();
        kindsRefusals();
        kindsBits();
        skipped();
        laws();
        film();
        filmTruly();
        drawnNumbers();
        lots();
        whereHeBegan();
        oddsNumbers();
        oddsTerms();
        Check.end();
    }

    // ---- what is best

    private static void daysAndWhat() {
        for (String name : new String[] {"begin", "lobby", "soup"}) {
            String promise = name.equals("begin") ? "promise 18" : name.equals("lobby") ? "promise 19" : "promise 20";
            Check.sentence(promise + ": n DAYS. BAD");
            Bound.call(Books::daily, name, V, 1).unchanged(0, 0).unchanged(6, 1).unchanged(354, 59).unchanged(360, 60)
                .unchanged(-2, -1, 61, MIN, MAX);
            int due = name.equals("begin") ? 0 : -1;
            Bound.call(Books::daily, name, V, 0).unchanged(due, 0, 1, 59, 60).unchanged(-2, -1, 61, MIN, MAX);
            Check.sentence(promise + ": what 0, 1. BAD");
            Bound.call(Books::daily, name, 1, V).unchanged(due, 0).unchanged(6, 1).unchanged(-2, -1, 2, MIN, MAX);
            Check.sentence(promise + ": -1: there are none; 0");
            Bound.call(OneReader::new, name, V, 0).unchanged(-1, 0, 1, 60);
            Bound.call(OneReader::new, name, V, 1).unchanged(0, 0, 1, 60);
        }
    }

    private static OneReader worths(String reads, int page, int bookmark, int skips, int... mores) {
        OneReader x = Books.worths(reads, mores);
        x.set(0, page);
        x.set(2, bookmark);
        x.set(3, skips);
        return x;
    }

    private static void best(String name, int which, int worth, Supplier<OneReader> made) {
        Bound.unchanged(made, which, name, 1, 0);
        Bound.unchanged(made, worth, name, 1, 1);
    }

    private static void begin() {
        Check.sentence("promise 18: most, of like ones the first");
        best("begin", 0, 5, () -> worths("1", 0, -1, 0, 5));
        best("begin", 0, 5, () -> worths("1", 0, -1, 0, 5, 5, 5));
        best("begin", 0, 5, () -> worths("1", 0, -1, 0, 5, 5, 4));
        best("begin", 1, 6, () -> worths("1", 0, -1, 0, 5, 6, 6));
        best("begin", 2, 7, () -> worths("1", 0, -1, 0, 5, 6, 7));
        best("begin", 2, 6, () -> worths("1", 0, -1, 0, 5, 5, 6));
        best("begin", 0, 0, () -> worths("1", 0, -1, 0, 0, 0, 0));
        best("begin", 2, 1, () -> worths("1", 0, -1, 0, 0, 0, 1));
        best("begin", 1, 5, () -> worths("1", 0, -1, 1, 5, 5, 4));
        OneReader x = Books.entries(12);
        x.force(Check.text(x, "reads 1; holds 1; worth 1;"));
        x.deed(2048);
        Check.due("begin(1, 0), the last", x.begin(1, 0), 11);
        x.deed(1);
        Check.due("begin(1, 0), the first", x.begin(1, 0), 0);
        Check.sentence("promise 18: were THE PAGE its first one, and no BOOKMARK");
        for (int bookmark = -1; bookmark < 3; bookmark++) {
            for (int page = 0; page < 3; page++) {
                int mark = bookmark;
                int at = page;
                best("begin", 1, 6, () -> worths("1", at, mark, 0, 5, 6, 6));
                best("begin", 0, 6, () -> worths("1", at, mark, 0, 6, 5, 5));
            }
        }
        OneReader wide = Books.pagesUnder("reads 3; holds 1; worth 1;", 3, 3);
        wide.deed(2);
        wide.set(0, 1);
        Check.due("run(1, 0), from the second page", wide.run(1, 0), 1);
        Check.due("begin(1, 0), not by the first's first page", wide.begin(1, 0), 1);
        Check.due("begin(2, 0)", wide.begin(2, 0), 0);
    }

    private static void lobby() {
        Check.sentence("promise 19: most, if more than as it is, of like ones the first");
        best("lobby", -1, 5, () -> worths("1", 0, -1, 0, 5));
        best("lobby", -1, 5, () -> worths("1", 0, -1, 0, 5, 5, 5));
        best("lobby", -1, 5, () -> worths("1", 0, -1, 0, 5, 4, 4));
        best("lobby", 1, 6, () -> worths("1", 0, -1, 0, 5, 6, 5));
        best("lobby", 1, 6, () -> worths("1", 0, -1, 0, 5, 6, 6));
        best("lobby", 2, 7, () -> worths("1", 0, -1, 0, 5, 6, 7));
        best("lobby", 0, 5, () -> worths("1", 2, -1, 0, 5, 5, 4));
        best("lobby", -1, 0, () -> worths("1", 0, -1, 0, 0, 0, 0));
        Check.sentence("promise 19: as it is, with THE BOOKMARK that there is");
        best("lobby", 1, 6, () -> worths("1", 0, 2, 0, 5, 6, 4));
        best("lobby", 0, 5, () -> worths("1", 1, 2, 0, 5, 5, 4));
        best("lobby", -1, 6, () -> worths("1", 0, 1, 0, 5, 6, 6));
        best("lobby", -1, 5, () -> worths("1", 1, 2, 0, 5, 5, 5));
        OneReader x = Books.entriesUnder("reads 1; holds 1; worth 1;", 12);
        x.deed(2048);
        Check.due("lobby(1, 0), the last", x.lobby(1, 0), 11);
        Check.due("lobby(1, 1)", x.lobby(1, 1), 1);
        x.set(0, 11);
        Check.due("lobby(1, 0), there already", x.lobby(1, 0), -1);
        Check.due("lobby(2, 0), read on both days by no one", x.lobby(2, 0), -1);
    }

    private static void soup() {
        Check.sentence("promise 20: least, if less than as it is, of like ones the first");
        best("soup", 0, 0, () -> worths("9", 0, -1, 0, 5));
        best("soup", -1, 0, () -> worths("9", 0, -1, 0, 0));
        best("soup", 2, 11, () -> worths("9", 0, -1, 0, 5, 6, 7));
        best("soup", 0, 13, () -> worths("9", 0, -1, 0, 7, 6, 7));
        best("soup", 0, 12, () -> worths("9", 0, -1, 0, 6, 6, 6));
        best("soup", 1, 0, () -> worths("9", 0, -1, 0, 0, 1, 0));
        best("soup", -1, 0, () -> worths("9", 0, -1, 0, 0, 0, 0));
        best("soup", 1, 0, () -> worths("1", 1, -1, 0, 9, 1, 9));
        Check.sentence("promise 20: SKIPPED, too");
        best("soup", 2, 5, () -> worths("9", 0, -1, 2, 5, 6, 7));
        best("soup", 1, 7, () -> worths("9", 0, -1, 1, 9, 9, 7));
        best("soup", 2, 0, () -> worths("9", 0, -1, 3, 9, 9, 1));
        best("soup", -1, 0, () -> worths("9", 0, -1, 7, 9, 9, 9));
        Check.sentence("promise 20: if less: never, if it is more by that");
        OneReader x = Check.under("reads 9; holds words < 3; worth 5;");
        for (int w = 0; w < 3; w++) {
            x.word(0, 1, -1);
            x.deed(1 << w);
        }
        Check.due("run(1, 0)", x.run(1, 0), 0);
        Check.due("soup(1, 0)", x.soup(1, 0), -1);
        Check.due("soup(1, 1)", x.soup(1, 1), 0);
        OneReader last = Books.entriesUnder("reads 12; holds 1; worth 1;", 12);
        last.deed(2048);
        Check.due("soup(1, 0), the last", last.soup(1, 0), 11);
    }

    /** Entry 0 sends on to 1, to which he does not come on the first day; a DEED needs 0. */
    private static OneReader twoOfARoad(int kind, int to) {
        OneReader x = Check.under("reads 1; holds 1; worth 9;");
        x.word(kind * 10, 1, to);
        x.word(0, 1, -1);
        x.deed(1);
        return x;
    }

    private static void road() {
        Check.sentence("promise 21: n. -7");
        Bound.call(Books::sixtieth, "road", 0, V, 1).unchanged(0, 0, 1, 59).unchanged(7, 60).unchanged(-7, -1, 61, MIN, MAX);
        Bound.call(Books::sixtieth, "road", 0, V, 0).unchanged(-1, 0, 1, 59, 60).unchanged(-7, -1, 61, MIN, MAX);
        Check.sentence("promise 21: what. -7");
        Bound.call(Books::daily, "road", 0, 1, V).unchanged(-1, 0).unchanged(6, 1).unchanged(-7, -1, 2, MIN, MAX);
        Check.sentence("promise 21: -5: no such ENTRY, ahead of -7");
        Bound.call(Books::rich, "road", V, 1, 0).unchanged(-1, 0, 1, 2).unchanged(-5, -1, 3, MIN, MAX);
        Bound.call(Books::rich, "road", V, 61, 0).unchanged(-7, 0, 2).unchanged(-5, -1, 3);
        Bound.call(Books::rich, "road", V, 1, 2).unchanged(-7, 0, 2).unchanged(-5, -1, 3);
        Bound.call(OneReader::new, "road", V, 1, 0).unchanged(-5, -1, 0);
        Check.sentence("promise 21: most, if more than as it is, of like ones the first (-2: to none; -1: no one)");
        int[] kinds = {0, 1, 3, 5};
        for (int kind : kinds) {
            // to itself it would be the same as to none, which is the first of like ones
            Bound.unchanged(() -> twoOfARoad(kind, 1), -2, "road", 0, 1, 0);
            Bound.unchanged(() -> twoOfARoad(kind, 1), 9, "road", 0, 1, 1);
            Bound.unchanged(() -> twoOfARoad(kind, 1), -1, "road", 0, 0, 0);
            Bound.unchanged(() -> twoOfARoad(kind, 1), 0, "road", 0, 0, 1);
            Bound.unchanged(() -> twoOfARoad(kind, 1), -1, "road", 1, 1, 0);
            Bound.unchanged(() -> twoOfARoad(kind, 1), 0, "road", 1, 1, 1);
        }
        Check.sentence("promise 21: -1: no one makes more");
        int[][] asGood = {{0, -1}, {0, 0}, {0, 2}, {0, 11}, {2, 1}, {4, 1}};
        for (int[] g : asGood) {
            Bound.unchanged(() -> twoOfARoad(g[0], g[1]), -1, "road", 0, 1, 0);
            Bound.unchanged(() -> twoOfARoad(g[0], g[1]), 9, "road", 0, 1, 1);
        }
    }

    // ---- definitions

    private static void chain() {
        Check.sentence("promise 22: ENTRIES that must HOLD BY THEMSELVES for one to HOLD, it, too. -5: no such ENTRY");
        Bound.call(Books::rich, "chain", V).unchanged(3, 0).unchanged(2, 1).unchanged(7, 2).unchanged(-5, -1, 3, MIN, MAX);
        Bound.call(Books::full, "chain", V).unchanged(7, 0).unchanged(480, 5).unchanged(2055, 11).unchanged(-5, -1, 12);
        Bound.call(OneReader::new, "chain", V).unchanged(-5, -1, 0);
        OneReader x = new OneReader();
        for (int w = 0; w < 12; w++) {
            x.word(0, 1, (w + 1) % 12);
        }
        Check.due("chain(0) of a ring of twelve", x.chain(0), 4095);
        Check.due("chain(11) of a ring of twelve", x.chain(11), 4095);
        x.put(11, 1, -1);
        Check.due("chain(0) of a line of twelve", x.chain(0), 4095);
        Check.due("chain(10)", x.chain(10), 3072);
        Check.due("chain(11)", x.chain(11), 2048);
        x.put(11, 1, 11);
        Check.due("chain(11), to itself", x.chain(11), 2048);
    }

    private static void rings() {
        Check.sentence("promise 23: ENTRIES that SEND ON, step by step, to themselves at last");
        Bound.unchanged(OneReader::new, 0, "rings");
        Bound.unchanged(Books::full, 4095, "rings");
        Bound.unchanged(Books::rich, 0, "rings");
        int[][] to = {{-1, 0}, {0, 3}, {1, 2}, {2, 7}, {3, 0}, {11, 0}};
        for (int[] t : to) {
            OneReader x = Books.rich();
            x.put(1, 1, t[0]);
            Check.due("rings() of 0 to 1, 2 to 0, 1 to " + t[0], x.rings(), t[1]);
        }
        OneReader line = new OneReader();
        for (int w = 0; w < 12; w++) {
            line.word(0, 1, w - 1);
        }
        Check.due("rings() of a line of twelve", line.rings(), 0);
        line.put(0, 1, 11);
        Check.due("rings() of twelve", line.rings(), 4095);
        line.put(0, 1, 10);
        Check.due("rings() of eleven, and one that leads there", line.rings(), 2047);
        line.put(0, 1, 0);
        Check.due("rings() of one, and eleven that lead there", line.rings(), 1);
        Check.sentence("promise 23: (also such as don't NEED that)");
        for (int kind = 0; kind < 6; kind++) {
            OneReader x = new OneReader();
            x.word(10 * kind, 1, 1);
            x.word(20, 1, 0);
            Check.due("rings() of KIND " + kind + " and FOREIGN", x.rings(), 3);
        }
    }

    private static void longest() {
        Check.sentence("promise 24: most, of like ones the first (what 0), how many (1); -1: there are none. BAD");
        Bound.call(OneReader::new, "longest", V).unchanged(-1, 0, 1);
        Bound.call(Books::rich, "longest", V).unchanged(2, 0).unchanged(3, 1).unchanged(-2, -1, 2, MIN, MAX);
        Bound.call(Books::full, "longest", V).unchanged(5, 0).unchanged(4, 1).unchanged(-2, -1, 2);
        Bound.call(() -> Books.entries(1), "longest", V).unchanged(0, 0).unchanged(1, 1);
        Bound.call(() -> Books.entries(12), "longest", V).unchanged(0, 0).unchanged(1, 1);
        // to which 1 and 2 send on; the longest, of how many
        int[][] to = {{-1, -1, 0, 1}, {2, -1, 1, 2}, {0, -1, 1, 2}, {0, 0, 1, 2}, {-1, 0, 2, 2}, {2, 0, 1, 3}, {0, 1, 2, 3}};
        for (int[] t : to) {
            OneReader x = Books.entries(3);
            x.put(1, 1, t[0]);
            x.put(2, 1, t[1]);
            Check.due("longest(0), 1 to " + t[0] + ", 2 to " + t[1], x.longest(0), t[2]);
            Check.due("longest(1)", x.longest(1), t[3]);
        }
        OneReader line = new OneReader();
        for (int w = 0; w < 12; w++) {
            line.word(0, 1, w - 1);
        }
        Check.due("longest(0) of a line to the first", line.longest(0), 11);
        Check.due("longest(1)", line.longest(1), 12);
    }

    // ---- told days

    private static void sheetsTold() {
        int[] due = {-1, 2, 4101, 2};
        String[] names = {"judge", "begins", "skipped", "laws"};
        for (int i = 0; i < names.length; i++) {
            Check.sentence("promises 25, 26, 28, 29: " + names[i] + ": BAD: SHEET; -11");
            Bound.call(Books::rich, names[i], V).unchanged(due[i], 0, 1, 2).unchanged(-11, 3).unchanged(-2, -1, 4, MIN, MAX);
            Bound.call(OneReader::new, names[i], V).unchanged(-11, 0, 3).unchanged(-2, -1, 4);
        }
    }

    private static void judge() {
        Check.sentence("promise 25: on one DAY, two, .. from now: the first (from 0) that is otherwise; -1: none");
        int[] row = new int[40];
        OneReader x = DaysTest.three();
        for (int i = 0; i < 40; i++) {
            // the days of three() come again after five of them
            row[i] = new int[] {0, 3, 2, 0, 0}[i % 5];
        }
        Books.tell(x, 0, 2, row);
        Check.due("judge(0), forty days", x.judge(0), -1);
        for (int i = 39; i >= 0; i--) {
            x.cell(0, i, 4);
            Check.due("judge(0), from " + i + " on otherwise", x.judge(0), i);
        }
        for (int i = 0; i < 40; i++) {
            x.cell(0, i, row[i]);
            Check.due("judge(0), as far as " + i + " true", x.judge(0), i < 39 ? i + 1 : -1);
        }
        Check.sentence("promise 25: of a SHEET of no number none");
        x.sheet(0, 2, 0);
        Check.due("judge(0)", x.judge(0), -1);
        x.sheet(0, 2, 1);
        Check.due("judge(0) of 0", x.judge(0), -1);
        x.cell(0, 0, 1);
        Check.due("judge(0) of 1", x.judge(0), 0);
        Check.sentence("promise 25: which ENTRIES (bits), and no other bits");
        OneReader all = Books.entriesUnder("reads 12; holds 1; worth 1;", 12);
        int[][] byNumber = {{4095, -1}, {4094, 0}, {4096, 0}, {8191, 0}, {-1, 0}, {MIN, 0}, {4095 + 65536, 0}};
        for (int[] b : byNumber) {
            Books.tell(all, 0, 2, b[0]);
            Check.due("judge(0) of " + b[0], all.judge(0), b[1]);
        }
    }

    private static void begins() {
        Check.sentence("promise 26: ENTRIES by which that would be -1");
        int[][] rows = {{1, 1}, {2, 2}, {1024, 1024}, {2048, 2048}, {4096, 0}, {0, 0}, {3, 0}};
        for (int[] r : rows) {
            OneReader x = Books.entriesUnder("reads 1; holds 1; worth 1;", 12);
            Books.tell(x, 0, 2, r[0]);
            for (int mark = -1; mark < 12; mark += 12) {
                x.set(2, mark);
                x.set(0, 7);
                Check.due("begins(0) of " + r[0], x.begins(0), r[1]);
            }
        }
        OneReader x = Books.entriesUnder("reads 1; holds 1; worth 1;", 12);
        x.sheet(0, 0, 0);
        Check.due("begins(0) of no number", x.begins(0), 4095);
        int[] row = new int[40];
        for (int i = 0; i < 40; i++) {
            row[i] = 1 << (i + 5) % 12;
        }
        Books.tell(x, 0, 1, row);
        Check.due("begins(0) of forty", x.begins(0), 32);
        x.cell(0, 39, 0);
        Check.due("begins(0), the last otherwise", x.begins(0), 0);
        OneReader none = new OneReader();
        none.sheet(0, 0, 0);
        Check.due("begins(0), no ENTRIES", none.begins(0), 0);
    }

    private static void kindsRefusals() {
        Check.sentence("promise 27: BAD, -11 likewise; -5: no such ENTRY; -7: sort");
        // of four DAYS a TORN one is as good as an ENTRY, of six not, for its pages are two less
        Bound.call(Books::rich, "kinds", V, 0, 0).unchanged(11, 0, 1).unchanged(43, 2).unchanged(-11, 3).unchanged(-2, -1, 4, MIN, MAX);
        Bound.call(Books::rich, "kinds", 2, V, 0).unchanged(43, 0).unchanged(-5, -1, 3, MIN, MAX);
        Bound.call(Books::rich, "kinds", 2, 0, V).unchanged(43, 0).unchanged(-7, -1, 3, MIN, MAX);
        Check.sentence("promise 27: of several the first one told");
        Bound.call(Books::rich, "kinds", V, 3, 3).unchanged(-5, 0, 2).unchanged(-11, 3).unchanged(-2, -1, 4);
        Bound.call(Books::rich, "kinds", V, 0, 3).unchanged(-7, 0, 2).unchanged(-11, 3).unchanged(-2, -1, 4);
        Bound.call(Books::rich, "kinds", 2, V, 3).unchanged(-7, 0, 2).unchanged(-5, -1, 3);
        Bound.call(OneReader::new, "kinds", 0, V, 0).unchanged(-11, -1, 0);
    }

    private static void kindsBits() {
        Check.sentence("promise 27: KINDS (sort 0; bits 0 .. 5), MORE (1; bits 0 .. 9), to which it SENDS ON (2)");
        for (int many : new int[] {1, 2, 11, 12}) {
            OneReader x = Books.entries(many);
            x.sheet(0, 0, 0);
            Check.due("kinds(0, 0, 0) of no number", x.kinds(0, 0, 0), 63);
            Check.due("kinds(0, 0, 1)", x.kinds(0, 0, 1), 1023);
            Check.due("kinds(0, " + (many - 1) + ", 2) of " + many, x.kinds(0, many - 1, 2), (1 << (many + 1)) - 1);
        }
        // a TORN one TAKES a page less, so that the other comes, too
        OneReader torn = Books.pagesUnder("reads 2; holds 1; worth 1;", 2, 1);
        Books.tell(torn, 0, 2, 3);
        Check.due("kinds(0, 0, 0), bit 5 alone", torn.kinds(0, 0, 0), 32);
        Books.tell(torn, 0, 2, 1);
        Check.due("kinds(0, 0, 0), all but bit 5", torn.kinds(0, 0, 0), 31);
        for (int more = 0; more < 10; more++) {
            OneReader spring = Check.under("reads 1; holds 0; worth 1;");
            spring.word(30, 1, -1);
            spring.set(1, 9 + more);
            Books.tell(spring, 0, 2, 1);
            Check.due("kinds(0, 0, 1), DAY " + (10 + more), spring.kinds(0, 0, 1), 1 << more);
        }
        Check.sentence("promise 27: by which, were they an ENTRY's, all others being as they are");
        // 11 sends on to 10, which does not hold; so 0 holds by all but the two
        OneReader last = Books.entriesUnder("reads 12; holds not entry = 10; worth 1;", 12);
        last.put(11, 1, 10);
        Books.tell(last, 0, 2, 1023);
        Check.due("kinds(0, 0, 2)", last.kinds(0, 0, 2), 8191 - (2 << 10) - (2 << 11));
        last.put(11, 1, -1);
        last.put(10, 1, 11);
        Books.tell(last, 0, 2, 4095 - 1024);
        Check.due("kinds(0, 0, 2), 11 to none", last.kinds(0, 0, 2), 8191 - (2 << 10));
        Check.due("kinds(0, 11, 2)", last.kinds(0, 11, 2), 8191 - (2 << 10));
        Check.sentence("promise 27: (2; bit 0: none, 1 more than each)");
        OneReader x = Books.entriesUnder("reads 12; holds entry = 0 or entry = 11; worth 1;", 12);
        Books.tell(x, 0, 2, 2049);
        Check.due("kinds(0, 0, 2): to none, itself, 11", x.kinds(0, 0, 2), 1 + 2 + 4096);
        Check.due("kinds(0, 11, 2): to none, 0, itself", x.kinds(0, 11, 2), 1 + 2 + 4096);
        Books.tell(x, 0, 2, 2048);
        Check.due("kinds(0, 0, 2): to all others", x.kinds(0, 0, 2), 8191 - 1 - 2 - 4096);
    }

    private static void skipped() {
        Check.sentence("promise 28: ENTRIES by which, were it alone SKIPPED; bit 12: if none was");
        OneReader x = Books.entriesUnder("reads 12; holds 1; worth 1;", 12);
        for (int skips : new int[] {0, 1, 2048, 4095}) {
            x.set(3, skips);
            int[][] rows = {{4095, 4096}, {4094, 1}, {4093, 2}, {3071, 1024}, {2047, 2048}, {0, 0}, {2046, 0}};
            for (int[] r : rows) {
                Books.tell(x, 0, 2, r[0]);
                Check.due("skipped(0) of " + r[0], x.skipped(0), r[1]);
            }
            x.sheet(0, 2, 0);
            Check.due("skipped(0) of no number", x.skipped(0), 8191);
        }
        OneReader none = new OneReader();
        none.sheet(0, 2, 1);
        Check.due("skipped(0), no ENTRIES", none.skipped(0), 4096);
        none.cell(0, 0, 1);
        Check.due("skipped(0), no ENTRIES, 1 told", none.skipped(0), 0);
    }

    private static void laws() {
        Check.sentence("promise 29: TEXTS (bits), were they THE LAW");
        OneReader x = Books.entries(12);
        x.sheet(0, 2, 0);
        for (int t = 1; t < 6; t++) {
            Check.due("laws(0) of no number, " + t + " TEXTS", x.laws(0), (1 << t) - 1);
            Check.text(x, "reads " + t + ";holds 1;worth 1;");
        }
        Check.due("laws(0) of no number, six TEXTS", x.laws(0), 63);
        for (int law = 0; law < 6; law++) {
            x.force(law);
            for (int t = 0; t < 6; t++) {
                Books.tell(x, 0, 2, t == 0 ? 1023 : (1 << t) - 1);
                Check.due("laws(0), told by TEXT " + t, x.laws(0), 1 << t);
            }
            Check.due("count(7)", x.count(7), law);
        }
    }

    private static void film() {
        Check.sentence("promise 30: n (0 .. 40): n. BAD");
        Bound.call(Books::rich, "film", 3, V).is(0, 0).is(1, 1).is(39, 39).is(40, 40).unchanged(-2, -1, 41, MIN, MAX);
        Bound.call(Books::rich, "film", 0, V).is(0, 0).is(40, 40).unchanged(-2, -1, 41);
        Check.sentence("promise 30: A SHEET. BAD");
        Bound.call(Books::rich, "film", V, 4).is(4, 0, 1, 2, 3).unchanged(-2, -1, 4, MIN, MAX);
        for (int n : new int[] {0, 1, 39, 40}) {
            OneReader x = Books.rich();
            x.film(0, n);
            Check.due("copy(0, n, 0, n, 0): as many as " + n, x.copy(0, n, 0, n, 0), 0);
            Check.due("cell(0, " + n + ", 1), behind the last", x.cell(0, n, 1), -12);
            Check.due("judge(0)", x.judge(0), -1);
            Check.due("wordsBy(0, 1, 0, 0): shorts", x.wordsBy(0, 1, 0, 0), 0);
            Check.due("wordsBy(0, 0, 0, 0): no bytes", x.wordsBy(0, 0, 0, 0), -13);
        }
    }

    private static void filmTruly() {
        Check.sentence("promise 30: A SHEET truly becomes n of these, and nothing else changes");
        OneReader x = Books.rich();
        x.film(3, 6);
        x.copy(3, 0, 1, 0, 6);
        x.sheet(3, -1, 0);
        Check.same("film(3, 6), copied to its like, and missing again", Everything.of(x), Everything.of(Books.rich()));
        OneReader y = Books.rich();
        y.cell(2, 3, 1);
        y.film(2, 3);
        Check.due("cell(2, 2, 0): of three numbers", y.cell(2, 2, 0), 1);
        Check.due("cell(2, 3, 0)", y.cell(2, 3, 0), -12);
        Check.due("judge(2)", y.judge(2), -1);
        Check.sentence("promise 30: from THE DAY 999 on, too; twelve ENTRIES");
        OneReader all = new OneReader();
        for (int w = 0; w < 12; w++) {
            all.word(45, 1, -1);
        }
        all.set(1, 999);
        Check.due("film(0, 40)", all.film(0, 40), 40);
        Check.due("count(3)", all.count(3), 999);
        int[] row = new int[40];
        java.util.Arrays.fill(row, 4095);
        Books.tell(all, 1, 1, row);
        Check.due("judge(0)", all.judge(0), -1);
        Check.due("judge(1)", all.judge(1), -1);
        for (int i = 0; i < 40; i++) {
            all.copy(0, i, 1, i, 1);
        }
        Check.due("judge(1), number by number from the film", all.judge(1), -1);
    }

    // ---- days by lots

    /** Entries of 3, 3 and 54 pages, of which none needs another; 3 a day. */
    private static OneReader lotsBook() {
        OneReader x = Books.pagesUnder("reads 3; holds 1; worth 1;", 3, 3, 54);
        x.deed(1);
        return x;
    }

    private static void drawnNumbers() {
        Check.sentence("promise 31: SEED (0 .. 99999). BAD");
        Bound.call(Books::daily, "drawn", V, 60, 500).unchanged(360, 0, 1, 99998, 99999).unchanged(-2, -1, 100000, MIN, MAX);
        Check.sentence("promise 31: n DAYS. BAD");
        Bound.call(Books::daily, "drawn", 7, V, 500).unchanged(0, 0).unchanged(6, 1).unchanged(354, 59).unchanged(360, 60)
            .unchanged(-2, -1, 61, MIN, MAX);
        Check.sentence("promise 31: 10 times the odds (0 .. 100), and what, 0 .. 4. BAD");
        Bound.call(Books::daily, "drawn", 7, 60, V).unchanged(360, 0, 10, 500, 990, 1000)
            .unchanged(1, 1, 2, 3, 11, 12, 13, 501, 502, 503, 991, 992, 993, 1001, 1002, 1003)
            .unchanged(0, 4, 14, 504, 994, 1004)
            .unchanged(-2, -1, -10, -6, 5, 9, 15, 19, 505, 509, 995, 999, 1005, 1009, 1010, 1011, MIN, MAX);
    }

    private static void page(int seed, int n, int odds, int due) {
        OneReader x = lotsBook();
        int what = 10 * odds + 4;
        Check.due("drawn(" + seed + ", " + n + ", " + what + ")", x.drawn(seed, n, what), due);
    }

    private static void lots() {
        Check.sentence("2 TURNING BACK: if LOT modulo 100 is below the odds (0 .. 100)");
        // the second lot, modulo 100: of seed 0 94, of 99999 59, of 51 0, of 60 99; turned back it is page 3 again
        int[][] second = {{0, 94}, {99999, 59}, {51, 0}, {60, 99}};
        for (int[] s : second) {
            page(s[0], 2, s[1], 6);
            page(s[0], 2, s[1] + 1, 3);
            page(s[0], 2, Math.max(0, s[1] - 1), 6);
            page(s[0], 2, 0, 6);
            page(s[0], 2, 100, 3);
        }
        Check.sentence("2 TURNING BACK: and it isn't the first");
        for (int seed : new int[] {0, 99999, 51, 60}) {
            page(seed, 0, 100, 0);
            page(seed, 1, 100, 3);
            OneReader x = lotsBook();
            x.live();
            Check.due("drawn(" + seed + ", 1, 1004), a day behind him", x.drawn(seed, 1, 1004), 6);
        }
        Check.sentence("2 LOTS: the first is (SEED and 1) times 48271 modulo 2147483647, each further one the last so");
        // seed 99999: 532132706, 525949559, 559487655, 274249833, 1224488635, 2098483704
        int[][] byOdds = {{0, 18}, {4, 18}, {5, 15}, {33, 15}, {34, 12}, {35, 12}, {36, 9}, {55, 9}, {56, 6}, {59, 6},
            {60, 3}, {100, 3}};
        for (int[] o : byOdds) {
            page(99999, 6, o[0], o[1]);
        }
        // seed 0: 48271, 182605794, 1291394886, 1914720637, 2078669041, 407355683
        int[][] ofZero = {{0, 18}, {37, 18}, {38, 15}, {41, 15}, {42, 12}, {83, 12}, {84, 9}, {86, 9}, {87, 6}, {94, 6},
            {95, 3}};
        for (int[] o : ofZero) {
            page(0, 6, o[0], o[1]);
        }
    }

    private static void whereHeBegan() {
        Check.sentence("2 TURNING BACK: THE PAGE is where he BEGAN the day ahead");
        OneReader x = lotsBook();
        x.set(2, 1);
        Check.due("drawn(0, 1, 1004), from the BOOKMARK", x.drawn(0, 1, 1004), 6);
        Check.due("drawn(0, 60, 1004), from the BOOKMARK", x.drawn(0, 60, 1004), 6);
        Check.due("drawn(0, 60, 1003), from the BOOKMARK", x.drawn(0, 60, 1003), 2);
        OneReader last = lotsBook();
        last.set(0, 59);
        Check.due("drawn(0, 2, 1004), over the last page", last.drawn(0, 2, 1004), 2);
        last.put(2, 0, 50);
        Check.due("drawn(0, 2, 1004), from 59 of 56", last.drawn(0, 2, 1004), 6);
        Check.due("drawn(0, 0, 1004)", last.drawn(0, 0, 1004), 59);
        Check.due("drawn(99999, 60, 1004), no PAGES", new OneReader().drawn(99999, 60, 1004), 0);
        OneReader gone = new OneReader();
        gone.image();
        gone.word(0, 60, -1);
        Check.due("run(5, 4), of 60 PAGES", gone.run(5, 4), 50);
        gone.back();
        Check.due("drawn(0, 5, 1004), no PAGES any more", gone.drawn(0, 5, 1004), 0);
    }

    private static void oddsNumbers() {
        long no = OneReader.NO;
        Check.sentence("promise 32: SEED. NO");
        Bound.call(Books::daily, "odds", V, 6030, 0, 50, 0).unchanged(1, 0, 99999).unchanged(no, -1, 100000, MIN, MAX);
        Check.sentence("promise 32: 100 times how many (0 .. 60) DAYS, and how many (1 .. 30) seeds. NO");
        Bound.call(Books::sixtieth, "odds", 0, V, 0, 0, 0).unchanged(0, 1, 2, 29, 30, 101, 130, 5901, 5930)
            .unchanged(1, 6001, 6030).unchanged(no, 0, 31, 99, 100, 131, 199, 5900, 5931, 6000, 6031, 6099, 6100, 6101, 6130,
            -1, -99, -100, -101, MIN, MAX);
        Check.sentence("promise 32: an ENTRY. NO");
        Bound.call(Books::rich, "odds", 0, 101, V, 0, 0).unchanged(0, 0, 2).unchanged(1, 1).unchanged(no, -1, 3, MIN, MAX);
        Bound.call(OneReader::new, "odds", 0, 101, V, 0, 0).unchanged(no, -1, 0);
        Check.sentence("promise 32: odds (0 .. 100). NO");
        Bound.call(Books::daily, "odds", 0, 101, 0, V, 0).unchanged(1, 0, 1, 99, 100).unchanged(no, -1, 101, MIN, MAX);
        Check.sentence("promise 32: part 0 above, 1 below the line. NO");
        Bound.call(Books::daily, "odds", 0, 101, 0, 0, V).unchanged(1, 0, 1).unchanged(no, -1, 2, MIN, MAX);
    }

    private static void odds(int seed, int seeds, int odds, int above, int below) {
        OneReader x = lotsBook();
        String call = "odds(" + seed + ", " + (200 + seeds) + ", 1, " + odds + ", ";
        Check.due(call + "0)", x.odds(seed, 200 + seeds, 1, odds, 0), above);
        Check.due(call + "1)", x.odds(seed, 200 + seeds, 1, odds, 1), below);
    }

    private static void oddsTerms() {
        Check.sentence("promise 32: SEED and each 1 more; in lowest terms");
        // second lots of seeds 0 .. 29, modulo 100: 94 88 82 76 70 64 58 52 46 40 34 81 75 69 63 57 51 45 39 33 27 21 15
        // 62 56 50 44 38 32 26; 1 HOLDS where he isn't turned back
        odds(0, 1, 94, 1, 1);
        odds(0, 1, 95, 0, 1);
        odds(0, 2, 88, 1, 1);
        odds(0, 2, 89, 1, 2);
        odds(0, 2, 95, 0, 1);
        odds(0, 30, 50, 17, 30);
        odds(0, 30, 51, 8, 15);
        odds(0, 29, 50, 17, 29);
        odds(0, 30, 15, 1, 1);
        odds(0, 30, 16, 29, 30);
        odds(0, 30, 94, 1, 30);
        odds(0, 30, 95, 0, 1);
        odds(0, 30, 0, 1, 1);
        odds(0, 30, 100, 0, 1);
        odds(1, 10, 40, 9, 10);
        odds(1, 9, 40, 1, 1);
        Check.sentence("promise 32: SEED and each 1 more, behind 99999, too");
        // of seeds 99999 .. 100028: 59 53 47 41 35 29 23 17 11 58 52 46 40 34 28 22 16 10 4 98 92 39 33 27 21 15 9 3 97 91
        odds(99999, 30, 50, 4, 15);
        odds(99999, 29, 50, 7, 29);
        odds(99999, 2, 53, 1, 1);
        odds(99999, 2, 54, 1, 2);
        Check.sentence("promise 32: of no DAYS, in none");
        OneReader x = Books.daily();
        Check.due("odds(0, 30, 0, 50, 0)", x.odds(0, 30, 0, 50, 0), 0);
        Check.due("odds(0, 30, 0, 50, 1)", x.odds(0, 30, 0, 50, 1), 1);
    }
}
