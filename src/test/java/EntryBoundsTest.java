/** Promises 1 to 3 and 8 to 17: each sentence that names a boundary. */
public final class EntryBoundsTest {
    private static final int V = Bound.V, MIN = Bound.MIN, MAX = Bound.MAX;

    public static void main(String[] args) {
        newObject();
        count();
        setPage();
        setDay();
        setBookmark();
        setSkipped();
        setWhat();
        word();
        told();
        put();
        live();
        now();
        deed();
        needs();
        done();
        run();
        when();
        Check.end();
    }

    private static void newObject() {
        Check.sentence("promise 1: No ENTRIES, no DEEDS");
        long[] counts = {0, 0, 0, 0, -1, 0, 1, 0, 0};
        for (int what = 0; what < 9; what++) {
            Bound.unchanged(OneReader::new, counts[what], "count", what);
        }
        Bound.unchanged(OneReader::new, -5, "told", 0, 0);
        Bound.unchanged(OneReader::new, -5, "needs", 0);
        Bound.unchanged(OneReader::new, -5, "chain", 0);
        Bound.unchanged(OneReader::new, -3, "back");
        Check.sentence("the face: NONE, BAD, STATE, FULL, NO");
        Check.due("NONE", OneReader.NONE, -1);
        Check.due("BAD", OneReader.BAD, -2);
        Check.due("STATE", OneReader.STATE, -3);
        Check.due("FULL", OneReader.FULL, -4);
        Check.due("NO", OneReader.NO, -(1L << 62));
    }

    private static void count() {
        Check.sentence("promise 2: 0 .. 8. BAD");
        long[] rich = {3, 2, 6, 2, 1, 4, 2, 1, 15};
        long[] full = {12, 6, 0, 0, -1, 0, 6, 0, 160};
        for (int what = 0; what < 9; what++) {
            Bound.unchanged(Books::rich, rich[what], "count", what);
            Bound.unchanged(Books::full, full[what], "count", what);
        }
        Bound.call(Books::rich, "count", V).unchanged(-2, -1, 9, MIN, MAX);
    }

    // ---- promise 3

    /** set(what, v) answers what it was, and nothing else changes by it. */
    private static void sets(int what, int was, int... values) {
        for (int v : values) {
            OneReader x = Books.rich();
            long[] counts = {3, 2, 6, 2, 1, 4, 2, 1, 15};
            counts[what + 2] = v;
            Check.due("set(" + what + ", " + v + ")", x.set(what, v), was);
            for (int of = 0; of < 9; of++) {
                Check.due("count(" + of + ") behind it", x.count(of), counts[of]);
            }
            Check.due("now(1) behind it", x.now(1), 3);
            Check.due("told(0, 4) behind it", x.told(0, 4), 2);
            x.set(what, was);
            Check.same("set(" + what + ", " + v + "), and set back", Everything.of(x), Everything.of(Books.rich()));
        }
    }

    private static void setPage() {
        Check.sentence("promise 3: THE PAGE (what 0; 0 .. how many PAGES there are less 1)");
        sets(0, 6, 0, 1, 13, 14);
        Bound.call(Books::rich, "set", 0, V).unchanged(-7, -1, 15, 16, MIN, MAX);
        Bound.call(() -> Books.entries(1), "set", 0, V).is(0, 0).unchanged(-7, -1, 1);
        Bound.call(() -> Books.entries(2), "set", 0, V).is(0, 0, 1).unchanged(-7, -1, 2);
        Bound.call(() -> Books.entries(12), "set", 0, V).is(0, 0, 11).unchanged(-7, -1, 12);
        Check.sentence("promise 3: 0, if there are none");
        Bound.call(OneReader::new, "set", 0, V).is(0, 0).unchanged(-7, -1, 1, MIN, MAX);
        Check.sentence("promise 3: what it was (also a PAGE behind the last, of a book that got shorter)");
        OneReader x = Books.rich();
        x.set(0, 14);
        x.put(2, 0, 1);
        Check.due("count(2), of 8 pages", x.count(2), 14);
        Check.due("set(0, 8)", x.set(0, 8), -7);
        Check.due("set(0, 14)", x.set(0, 14), -7);
        Check.due("set(0, 7)", x.set(0, 7), 14);
        Check.due("set(0, 0)", x.set(0, 0), 7);
    }

    private static void setDay() {
        Check.sentence("promise 3: THE DAY (1)");
        sets(1, 2, 0, 1, 998, 999);
        Bound.call(Books::rich, "set", 1, V).unchanged(-7, -1, 1000, MIN, MAX);
        Bound.call(OneReader::new, "set", 1, V).is(0, 0, 999).unchanged(-7, -1, 1000);
    }

    private static void setBookmark() {
        Check.sentence("promise 3: THE BOOKMARK (2; -1: none)");
        sets(2, 1, -1, 0, 1, 2);
        Bound.call(Books::rich, "set", 2, V).unchanged(-7, -2, 3, MIN, MAX);
        Bound.call(OneReader::new, "set", 2, V).is(-1, -1).unchanged(-7, -2, 0);
        Bound.call(Books::full, "set", 2, V).is(-1, -1, 0, 11).unchanged(-7, -2, 12);
    }

    private static void setSkipped() {
        Check.sentence("promise 3: SKIPPED (3; bits of ENTRIES)");
        sets(3, 4, 0, 1, 6, 7);
        Bound.call(Books::rich, "set", 3, V).unchanged(-7, -1, 8, MIN, MAX);
        Bound.call(OneReader::new, "set", 3, V).is(0, 0).unchanged(-7, -1, 1);
        Bound.call(Books::full, "set", 3, V).is(0, 0, 2048, 4095).unchanged(-7, -1, 4096);
    }

    private static void setWhat() {
        Check.sentence("promise 3: -5: what; -7: v; of several the first one told");
        Bound.call(Books::rich, "set", V, 0).is(6, 0).is(2, 1).is(1, 2).is(4, 3).unchanged(-5, -1, 4, MIN, MAX);
        Bound.call(Books::rich, "set", V, -9).unchanged(-5, -1, 4).unchanged(-7, 0, 1, 2, 3);
        Bound.call(Books::rich, "set", V, MAX).unchanged(-5, -1, 4).unchanged(-7, 0, 1, 2, 3);
    }

    // ---- promises 8 to 10

    private static void word() {
        Check.sentence("promise 8: An ENTRY, behind all others: its number");
        OneReader x = Books.rich();
        Check.due("word(59, 60, 11)", x.word(59, 60, 11), 3);
        long[] due = {5, 9, 60, 11, -1, 30, 15, 1};
        for (int what = 0; what < 8; what++) {
            Check.due("told(3, " + what + ")", x.told(3, what), due[what]);
        }
        long[] counts = {4, 2, 6, 2, 1, 4, 2, 1, 15};
        for (int what = 0; what < 9; what++) {
            Check.due("count(" + what + ")", x.count(what), counts[what]);
        }
        Check.due("now(0)", x.now(0), 3);
        Check.due("now(1)", x.now(1), 3);
        Check.sentence("promise 8: BAD; FULL; of several the first one told");
        Bound.call(Books::full, "word", V, 1, 0).unchanged(-4, 0, 59).unchanged(-2, -1, 60);
        Bound.call(Books::full, "word", 0, V, 0).unchanged(-4, 1, 60).unchanged(-2, 0, 61);
        Bound.call(Books::full, "word", 0, 1, V).unchanged(-4, -1, 11).unchanged(-2, -2, 12);
    }

    private static void told() {
        Check.sentence("promise 9: an ENTRY; -5: no such ENTRY");
        Bound.call(Books::rich, "told", V, 2).unchanged(4, 0).unchanged(3, 1).unchanged(8, 2)
            .unchanged(-5, -1, 3, 12, MIN, MAX);
        Bound.call(Books::full, "told", V, 2).unchanged(1, 0).unchanged(56, 11).unchanged(-5, -1, 12);
        Check.sentence("promise 9: what 0 .. 7; -7: what");
        long[] due = {0, 0, 8, 0, -1, 8, 7, 1};
        for (int what = 0; what < 8; what++) {
            Bound.unchanged(Books::rich, due[what], "told", 2, what);
        }
        Bound.call(Books::rich, "told", 2, V).unchanged(-7, -1, 8, MIN, MAX);
        Check.sentence("promise 9: -5 ahead of -7");
        Bound.call(Books::rich, "told", V, 8).unchanged(-5, -1, 3).unchanged(-7, 0, 2);
    }

    private static void put() {
        Check.sentence("promise 10: LONG (what 0) becomes v: what it was");
        Bound.call(Books::rich, "put", 2, 0, V).is(8, 1, 2, 59, 60).unchanged(-7, 0, 61, -1, MIN, MAX);
        OneReader x = Books.rich();
        x.put(0, 0, 60);
        long[][] told = {{0, 0, 60, 1, 2, 60, 0, 1}, {0, 0, 3, -1, 2, 3, 60, 1}, {0, 0, 8, 0, -1, 8, 63, 1}};
        long[] counts = {3, 2, 6, 2, 1, 4, 2, 1, 15};
        for (int w = 0; w < 3; w++) {
            for (int what = 0; what < 8; what++) {
                Check.due("told(" + w + ", " + what + ")", x.told(w, what), told[w][what]);
            }
        }
        for (int what = 0; what < 9; what++) {
            Check.due("count(" + what + ")", x.count(what), counts[what]);
        }
        Check.due("put(0, 0, 4), back", x.put(0, 0, 4), 60);
        Check.same("put(0, 0, 60), and back", Everything.of(x), Everything.of(Books.rich()));
        Check.sentence("promise 10: to which it SENDS ON (1; -1: none) becomes v: what it was");
        Bound.call(Books::rich, "put", 2, 1, V).is(0, -1, 0, 2, 3, 11).unchanged(-7, -2, 12, MIN, MAX);
        Bound.call(Books::rich, "put", 1, 1, V).is(-1, -1, 0, 11).unchanged(-7, -2, 12);
        Check.sentence("promise 10: -5: no such ENTRY");
        Bound.call(Books::rich, "put", V, 0, 5).is(4, 0).is(3, 1).is(8, 2).unchanged(-5, -1, 3, MIN, MAX);
        Check.sentence("promise 10: -7: what");
        Bound.call(Books::rich, "put", 0, V, 5).is(4, 0).is(1, 1).unchanged(-7, -1, 2, MIN, MAX);
        Check.sentence("promise 10: -5 ahead of -7");
        Bound.call(Books::rich, "put", V, 2, 5).unchanged(-5, -1, 3).unchanged(-7, 0, 2);
        Bound.call(Books::rich, "put", V, 0, 0).unchanged(-5, -1, 3).unchanged(-7, 0, 2);
    }

    // ---- promises 11 to 17

    private static void live() {
        Check.sentence("promise 11: A DAY, truly: CAME. FULL: THE DAY is 999");
        for (int day : new int[] {0, 997, 998}) {
            OneReader x = Books.rich();
            x.set(1, day);
            Check.due("live() of day " + (day + 1), x.live(), 2);
            Check.due("count(3)", x.count(3), day + 1);
            Check.due("count(2)", x.count(2), 7);
            Check.due("count(4)", x.count(4), -1);
            Check.due("now(1)", x.now(1), 2);
            Check.due("now(0)", x.now(0), 2);
        }
        Bound.unchanged(() -> {
            OneReader x = Books.rich();
            x.set(1, 999);
            return x;
        }, -4, "live");
        Bound.unchanged(() -> {
            OneReader x = new OneReader();
            x.set(1, 999);
            return x;
        }, -4, "live");
    }

    private static void now() {
        Check.sentence("promise 12: HOLD (what 0), CAME (1), HOLD BY THEMSELVES (2). BAD");
        Bound.call(Books::rich, "now", V).unchanged(3, 0, 1, 2).unchanged(-2, -1, 3, MIN, MAX);
        Bound.call(OneReader::new, "now", V).unchanged(0, 0, 1, 2).unchanged(-2, -1, 3);
        OneReader x = Books.pagesUnder("reads 1; holds 1; worth 1;", 1, 1);
        x.word(45, 1, 0);
        x.put(0, 1, 1);
        x.live();
        Check.due("now(0)", x.now(0), 4);
        Check.due("now(1)", x.now(1), 1);
        Check.due("now(2)", x.now(2), 5);
    }

    private static void deed() {
        Check.sentence("promise 13: some ENTRIES (bits, one at least): its number. BAD");
        Bound.call(Books::rich, "deed", V).is(2, 1, 7).unchanged(-2, 0, 8, -1, MIN, MAX);
        Bound.call(OneReader::new, "deed", V).unchanged(-2, -1, 0, 1);
        Bound.call(() -> Books.entries(1), "deed", V).is(0, 1).unchanged(-2, 0, 2);
        Bound.call(() -> Books.entries(12), "deed", V).is(0, 1, 2048, 4095).unchanged(-2, 0, 4096);
        OneReader x = Books.rich();
        x.deed(7);
        long[] counts = {3, 3, 6, 2, 1, 4, 2, 1, 15};
        for (int what = 0; what < 9; what++) {
            Check.due("count(" + what + ") behind deed(7)", x.count(what), counts[what]);
        }
        Check.sentence("promise 13: FULL; BAD ahead of it");
        Bound.call(Books::full, "deed", V).unchanged(-4, 1, 4095).unchanged(-2, 0, 4096);
        OneReader five = Books.entries(1);
        for (int d = 0; d < 5; d++) {
            five.deed(1);
        }
        Check.due("deed(1), the sixth", five.deed(1), 5);
        Check.due("deed(1), the seventh", five.deed(1), -4);
    }

    private static void needs() {
        Check.sentence("promise 14: What a DEED needs. -5: no such DEED");
        Bound.call(Books::rich, "needs", V).unchanged(2, 0).unchanged(3, 1).unchanged(-5, -1, 2, 6, MIN, MAX);
        Bound.call(Books::full, "needs", V).unchanged(2049, 0).unchanged(96, 5).unchanged(-5, -1, 6);
    }

    private static void done() {
        Check.sentence("promise 15: DEEDS that can be DONE (what 0), their WORTH, together (1). BAD");
        Bound.call(Books::rich, "done", V).unchanged(3, 0).unchanged(13, 1).unchanged(-2, -1, 2, MIN, MAX);
        Bound.call(OneReader::new, "done", V).unchanged(0, 0, 1).unchanged(-2, -1, 2);
        int[] worths = {98, 99, 100};
        for (int worth : worths) {
            OneReader x = Books.entriesUnder("reads 1; holds 1; worth " + worth + ";", 1);
            for (int d = 0; d < 6; d++) {
                Check.due("done(1), " + d + " deeds", x.done(1), 0);
                x.deed(1);
            }
            x.live();
            Check.due("done(0), six of six", x.done(0), 63);
            Check.due("done(1), six of " + worth, x.done(1), 6 * Math.min(99, worth));
            Check.due("run(60, 0)", x.run(60, 0), 360 * Math.min(99, worth));
        }
    }

    private static void run() {
        Check.sentence("promise 16: n DAYS");
        for (int what = 0; what < 5; what++) {
            long[] of1 = {6, 1, 1, 1, 0};
            long[] of59 = {354, 1, 1, 1, 0};
            long[] of60 = {360, 1, 1, 1, 0};
            Bound.call(Books::daily, "run", V, what).unchanged(0, 0).unchanged(of1[what], 1)
                .unchanged(of59[what], 59).unchanged(of60[what], 60).unchanged(-2, -1, 61, MIN, MAX);
        }
        Check.sentence("promise 16: what 0 .. 4. BAD");
        Bound.call(Books::rich, "run", 1, V).unchanged(6, 0).unchanged(1, 1).unchanged(2, 2, 3).unchanged(7, 4)
            .unchanged(-2, -1, 5, MIN, MAX);
        Check.sentence("promise 16: n DAYS of 0: no DAY, THE PAGE as it is");
        Bound.call(Books::rich, "run", 0, V).unchanged(0, 0, 1, 2, 3).unchanged(6, 4).unchanged(-2, -1, 5);
        Check.sentence("promise 16: no ENTRIES, no DEEDS");
        Bound.call(OneReader::new, "run", V, 0).unchanged(0, 0, 1, 60).unchanged(-2, -1, 61);
        Bound.call(OneReader::new, "run", 60, V).unchanged(0, 0, 1, 2, 3, 4).unchanged(-2, -1, 5);
        Check.sentence("promise 16: 4 THE PAGE at last, of no DAY the one that is behind the last, too");
        OneReader x = Books.pagesUnder("reads 1; holds 1; worth 1;", 9, 9);
        x.set(0, 17);
        x.put(1, 0, 1);
        Check.due("run(0, 4), behind the last page", x.run(0, 4), 17);
        Check.due("run(1, 4), from 17 of 10", x.run(1, 4), 8);
        Check.sentence("promise 16: on any DAY");
        OneReader last = Books.sixtieth();
        Check.due("run(59, 1)", last.run(59, 1), 0);
        Check.due("run(60, 1)", last.run(60, 1), 1);
        Check.due("run(59, 2)", last.run(59, 2), 0);
        Check.due("run(60, 2)", last.run(60, 2), 1);
        last.set(1, 59);
        Check.due("run(1, 2), the first day alone", last.run(1, 2), 1);
        Check.due("run(60, 2)", last.run(60, 2), 1);
        last.set(1, 60);
        Check.due("run(60, 2), today is none of them", last.run(60, 2), 0);
    }

    private static void when() {
        Check.sentence("promise 17: On which of n DAYS (from 0) first; -1: on none");
        for (int sort = 0; sort < 2; sort++) {
            Bound.call(Books::sixtieth, "when", sort, 0, V).unchanged(-1, 0, 1, 59).unchanged(59, 60)
                .unchanged(-7, -1, 61, MIN, MAX);
            OneReader x = Books.sixtieth();
            for (int day : new int[] {57, 58, 59, 60}) {
                x.set(1, day);
                int due = 59 - day;
                Check.due("when(" + sort + ", 0, 1) on day " + day, x.when(sort, 0, 1), due == 0 ? 0 : -1);
                Check.due("when(" + sort + ", 0, 2) on day " + day, x.when(sort, 0, 2), due == 0 || due == 1 ? due : -1);
                Check.due("when(" + sort + ", 0, 60) on day " + day, x.when(sort, 0, 60), due < 0 ? -1 : due);
            }
            Bound.call(Books::daily, "when", sort, 0, V).unchanged(-1, 0).unchanged(0, 1, 60).unchanged(-7, -1, 61);
        }
        Check.sentence("promise 17: -5: sort");
        Bound.call(Books::daily, "when", V, 0, 9).unchanged(0, 0, 1).unchanged(-5, -1, 2, MIN, MAX);
        Check.sentence("promise 17: -5: no such ENTRY, DEED");
        Bound.call(Books::rich, "when", 0, V, 9).unchanged(-1, 2).unchanged(0, 1).unchanged(-5, -1, 3, MIN, MAX);
        Bound.call(Books::rich, "when", 1, V, 9).unchanged(0, 0).unchanged(-1, 1).unchanged(-5, -1, 2, MIN, MAX);
        Bound.call(OneReader::new, "when", V, 0, 9).unchanged(-5, -1, 0, 1, 2);
        Check.sentence("promise 17: -5 ahead of -7");
        Bound.call(Books::rich, "when", V, 0, 61).unchanged(-5, -1, 2).unchanged(-7, 0, 1);
        Bound.call(Books::rich, "when", 0, V, -1).unchanged(-5, -1, 3).unchanged(-7, 0, 2);
        Bound.call(Books::rich, "when", 1, V, -1).unchanged(-5, -1, 2).unchanged(-7, 0, 1);
    }
}
