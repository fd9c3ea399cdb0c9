import java.util.function.Supplier;

/** Heads 1 and 2 of the document, but for texts, lots and sheets: each sentence that names a boundary. */
public final class TermsBoundsTest {
    private static final int V = Bound.V, MIN = Bound.MIN, MAX = Bound.MAX;

    public static void main(String[] args) {
        entries();
        sendsOnToOneNotThereYet();
        pages();
        atFirst();
        deeds();
        takes();
        entryHolds();
        habitHolds();
        springHolds();
        houseworkHolds();
        tornHolds();
        behind();
        needs();
        aDay();
        begins();
        moduloPages();
        noMoreThanThereAre();
        behindTheLastTheFirst();
        anyOfThese();
        skipped();
        readsOfTheEntry();
        holdsOnAndOn();
        deedsDone();
        daysInThought();
        Check.end();
    }

    // ---- head 1

    private static void entries() {
        Check.sentence("1 ENTRIES: from 0 on, 12 at most");
        for (int have : new int[] {0, 1, 10, 11}) {
            OneReader x = Books.entries(have);
            Check.due("word(0, 1, -1) behind " + have, x.word(0, 1, -1), have);
            Check.due("count(0)", x.count(0), have + 1);
        }
        Bound.unchanged(() -> Books.entries(12), -4, "word", 0, 1, -1);
        Bound.unchanged(Books::full, -4, "word", 0, 1, -1);
        Check.sentence("1 ENTRIES: of a KIND, with MORE (0 .. 9)");
        Bound.call(Books::rich, "word", V, 1, 0).is(3, 0, 1, 9, 10, 58, 59).unchanged(-2, -1, 60, MIN, MAX);
        for (int kindMore : new int[] {0, 9, 10, 19, 20, 49, 50, 59}) {
            OneReader x = new OneReader();
            x.word(kindMore, 1, 0);
            Check.due("KIND of " + kindMore, x.told(0, 0), kindMore / 10);
            Check.due("MORE of " + kindMore, x.told(0, 1), kindMore % 10);
        }
        Check.sentence("1 ENTRIES: LONG (1 .. 60)");
        Bound.call(Books::rich, "word", 0, V, 0).is(3, 1, 2, 59, 60).unchanged(-2, 0, -1, 61, MIN, MAX);
        Bound.call(Books::rich, "put", 0, 0, V).is(4, 1, 2, 59, 60).unchanged(-7, 0, -1, 61, MIN, MAX);
        Check.sentence("1 ENTRIES: SENDS ON to one of numbers 0 .. 11, or to none");
        Bound.call(Books::rich, "word", 0, 1, V).is(3, -1, 0, 1, 10, 11).unchanged(-2, -2, 12, MIN, MAX);
        Bound.call(Books::rich, "put", 0, 1, V).is(1, -1, 0, 1, 10, 11).unchanged(-7, -2, 12, MIN, MAX);
        Check.sentence("1 ENTRIES: READ ON a DAY, or never yet");
        OneReader x = Books.rich();
        Check.due("told(1, 4)", x.told(1, 4), 2);
        Check.due("told(2, 4)", x.told(2, 4), -1);
        x.set(1, 998);
        x.live();
        Check.due("told(1, 4), read on the last day", x.told(1, 4), 999);
        Check.due("told(0, 4)", x.told(0, 4), 2);
        OneReader first = Books.entries(1);
        Check.due("told(0, 4)", first.told(0, 4), -1);
        first.live();
        Check.due("told(0, 4), read on the first day", first.told(0, 4), 1);
    }

    private static void sendsOnToOneNotThereYet() {
        Check.sentence("1 ENTRIES: SENDS ON also to one that isn't there yet");
        for (int to : new int[] {1, 11}) {
            OneReader x = Check.under("reads 99; holds entry = 0; worth 1;");
            x.word(0, 1, to);
            for (int w = 1; w < to; w++) {
                x.word(0, 1, -1);
            }
            x.live();
            Check.due("told(0, 3)", x.told(0, 3), to);
            Check.due("chain(0), none at " + to, x.chain(0), 1);
            Check.due("now(0), none at " + to, x.now(0), 1);
            x.word(0, 1, -1);
            Check.due("chain(0), one at " + to, x.chain(0), 1 | 1 << to);
            Check.due("now(0), one at " + to + ", which does not hold", x.now(0), 0);
            x.put(0, 1, -1);
            Check.due("now(0), sent on to none", x.now(0), 1);
        }
    }

    private static void pages() {
        Check.sentence("1 THE BOOK's PAGES: of ENTRY 0 so many as it TAKES, then those of ENTRY 1");
        int[] comes = {1, 1, 1, 2, 4, 4, 1};
        OneReader x = Books.pagesUnder("reads 1; holds 1; worth 1;", 3, 1, 2);
        for (int page = 0; page < comes.length; page++) {
            Check.due("live() on page " + page % 6, x.live(), comes[page]);
        }
        OneReader all = new OneReader();
        for (int w = 0; w < 12; w++) {
            all.word(29, 60, -1);
            Check.due("told(" + w + ", 6)", all.told(w, 6), 63 * w);
        }
        Check.sentence("1 THE BOOK's PAGES: numbered from 0");
        Check.due("set(0, 755), the last of 12 times 63", all.set(0, 755), 0);
        Check.due("set(0, 756)", all.set(0, 756), -7);
        Check.due("set(0, -1)", all.set(0, -1), -7);
        Check.due("count(2)", all.count(2), 755);
    }

    private static void atFirst() {
        Check.sentence("1 THE PAGE, THE DAY: 0 at first; THE BOOKMARK, SKIPPED, CAME: none at first");
        OneReader x = new OneReader();
        Check.due("count(2)", x.count(2), 0);
        Check.due("count(3)", x.count(3), 0);
        Check.due("count(4)", x.count(4), -1);
        Check.due("count(5)", x.count(5), 0);
        Check.due("now(1)", x.now(1), 0);
        Check.sentence("1 THE DAY: 0 .. 999");
        Bound.call(Books::rich, "set", 1, V).is(2, 0, 1, 998, 999).unchanged(-7, -1, 1000, MIN, MAX);
    }

    private static void deeds() {
        Check.sentence("1 DEEDS: from 0 on, 6 at most");
        OneReader x = Books.entries(12);
        for (int d = 0; d < 6; d++) {
            Check.due("deed(4095)", x.deed(4095), d);
            Check.due("count(1)", x.count(1), d + 1);
        }
        Check.due("deed(4095), the seventh", x.deed(4095), -4);
        Bound.unchanged(Books::full, -4, "deed", 1);
        Check.sentence("1 DEEDS: ENTRIES (one at least)");
        Bound.call(Books::rich, "deed", V).is(2, 1, 2, 4, 3, 7).unchanged(-2, 0, 8, -1, MIN, MAX);
    }

    private static void takes(int kindMore, int many, int due) {
        OneReader x = new OneReader();
        x.word(kindMore, many, -1);
        x.word(0, 1, -1);
        Check.due("told(0, 5) of word(" + kindMore + ", " + many + ", -1)", x.told(0, 5), due);
        Check.due("told(1, 6) behind it", x.told(1, 6), due);
    }

    private static void takes() {
        Check.sentence("1 KIND 0 ENTRY, 1 HABIT, 3 SPRING: TAKES LONG");
        for (int kindMore : new int[] {0, 9, 10, 19, 30, 39}) {
            takes(kindMore, 1, 1);
            takes(kindMore, 60, 60);
        }
        Check.sentence("1 KIND 2 FOREIGN: TAKES MORE by 3 (cut) more; 4 HOUSEWORK: as it");
        int[] thirds = {0, 0, 0, 1, 1, 1, 2, 2, 2, 3};
        for (int more = 0; more < 10; more++) {
            takes(20 + more, 1, 1 + thirds[more]);
            takes(20 + more, 60, 60 + thirds[more]);
            takes(40 + more, 1, 1 + thirds[more]);
            takes(40 + more, 60, 60 + thirds[more]);
        }
        Check.sentence("1 KIND 5 TORN: TAKES half (cut)");
        int[][] halves = {{2, 1}, {3, 1}, {4, 2}, {5, 2}, {6, 3}, {59, 29}, {60, 30}};
        for (int[] half : halves) {
            takes(50, half[0], half[1]);
            takes(59, half[0], half[1]);
        }
        Check.sentence("1 KINDS: TAKES 1 at least, in the end");
        takes(50, 1, 1);
        takes(59, 1, 1);
        OneReader x = new OneReader();
        x.word(50, 3, -1);
        x.put(0, 0, 1);
        Check.due("told(0, 5), put to LONG 1", x.told(0, 5), 1);
        Check.due("set(0, 1), a page alone", x.set(0, 1), -7);
    }

    /** Whether it holds by itself, from the DAY on which it is READ on, and is not READ any more. */
    private static void holds(int kindMore, String holds, int readOn, String due) {
        OneReader x = Check.under("reads 1; holds " + holds + "; worth 1;");
        x.word(kindMore, 1, -1);
        x.word(0, 1, -1);
        x.set(1, readOn - 1);
        StringBuilder is = new StringBuilder();
        for (int i = 0; i < due.length(); i++) {
            x.live();
            x.set(2, 1);
            is.append(x.now(2) & 1);
        }
        Check.same("word(" + kindMore + ", 1, -1), holds " + holds + ", READ ON " + readOn, is.toString(), due);
    }

    private static void neverRead(int kindMore, String due) {
        OneReader x = Check.under("reads 1; holds 1; worth 1;");
        x.word(kindMore, 1, -1);
        x.word(0, 1, -1);
        StringBuilder is = new StringBuilder();
        for (int i = 0; i < due.length(); i++) {
            is.append(x.now(2) & 1);
            x.set(2, 1);
            x.live();
        }
        Check.same("word(" + kindMore + ", 1, -1), never READ, from day 0 on", is.toString(), due);
    }

    private static void entryHolds() {
        Check.sentence("1 KIND 0 ENTRY: HOLDS if READ, and yes; 2 FOREIGN: as it");
        for (int kindMore : new int[] {0, 9, 20, 29}) {
            holds(kindMore, "1", 1, "1000");
            holds(kindMore, "0", 1, "0000");
            neverRead(kindMore, "00000000000");
        }
    }

    private static void habitHolds() {
        Check.sentence("1 KIND 1 HABIT: HOLDS also if yes, and BEHIND is no more than MORE");
        holds(10, "1", 1, "100000000000");
        holds(11, "1", 1, "110000000000");
        holds(12, "1", 1, "111000000000");
        holds(18, "1", 1, "111111111000");
        holds(19, "1", 1, "111111111100");
        holds(19, "0", 1, "000000000000");
        holds(19, "behind = 9", 1, "000000000100");
        holds(19, "behind = 10", 1, "000000000000");
    }

    private static void springHolds() {
        Check.sentence("1 KIND 3 SPRING: HOLDS as a HABIT, if THE DAY modulo 10 is no less than MORE by 2 (cut)");
        String[] byMore = {"1111111111", "1111111111", "0111111111", "0111111111", "0011111111", "0011111111", "0001111111",
            "0001111111", "0000111111", "0000111111"};
        for (int more = 0; more < 10; more++) {
            Check.same("MORE " + more + ", READ each day, yes", springDays(more, "1"), byMore[more]);
        }
        holds(34, "1", 12, "11111000000010");
        holds(34, "1", 11, "011110000");
        holds(34, "1", 9, "1001110");
        Check.sentence("1 KIND 3 SPRING: HOLDS, whatever else, if it is MORE");
        for (int more = 0; more < 10; more++) {
            String due = "0".repeat(more) + "1" + "0".repeat(9 - more);
            Check.same("MORE " + more + ", READ each day, no", springDays(more, "0"), due);
            neverRead(30 + more, due + due);
        }
    }

    private static String springDays(int more, String holds) {
        OneReader x = Check.under("reads 1; holds " + holds + "; worth 1;");
        x.word(30 + more, 1, -1);
        x.set(1, 9);
        StringBuilder is = new StringBuilder();
        for (int i = 0; i < 10; i++) {
            x.live();
            is.append(x.now(2));
        }
        return is.toString();
    }

    private static void houseworkHolds() {
        Check.sentence("1 KIND 4 HOUSEWORK: HOLDS also, if MORE is above 4");
        for (int more = 0; more < 10; more++) {
            holds(40 + more, "1", 1, more > 4 ? "1111" : "1000");
            holds(40 + more, "0", 1, more > 4 ? "1111" : "0000");
            neverRead(40 + more, more > 4 ? "1111" : "0000");
        }
    }

    private static void tornHolds() {
        Check.sentence("1 KIND 5 TORN: HOLDS as an ENTRY, if BEHIND modulo 2 is MORE modulo 2");
        for (int more = 0; more < 10; more++) {
            // READ it is but with 0 BEHIND, which is even
            holds(50 + more, "1", 1, more % 2 == 0 ? "1000" : "0000");
            holds(50 + more, "0", 1, "0000");
            neverRead(50 + more, "0000");
        }
    }

    private static void behind() {
        Check.sentence("1 BEHIND: THE DAY less that on which it was READ");
        for (int behind = 0; behind < 10; behind++) {
            holds(19, "behind = " + behind, 5, "0".repeat(behind) + "1" + "0".repeat(11 - behind));
        }
        Check.sentence("1 BEHIND: 0 at least");
        OneReader x = Check.under("reads 1; holds behind = 0; worth 1;");
        x.word(10, 1, -1);
        x.set(1, 8);
        x.live();
        int[][] byDay = {{10, 0}, {9, 1}, {8, 1}, {7, 1}, {0, 1}};
        for (int[] d : byDay) {
            x.set(1, d[0]);
            Check.due("now(2) of a HABIT, READ ON 9, DAY " + d[0], x.now(2), d[1]);
        }
        Check.sentence("1 BEHIND: 999, if never");
        for (int day : new int[] {0, 1, 8, 9, 10, 998, 999}) {
            OneReader never = Check.under("reads 1; holds 1; worth 1;");
            never.word(19, 1, -1);
            never.set(1, day);
            Check.due("now(2) of a HABIT of 9, never READ, DAY " + day, never.now(2), 0);
        }
        Check.sentence("1 KINDS: READ ON THE DAY or not");
        OneReader read = Check.under("reads 1; holds 1; worth 1;");
        read.word(0, 1, -1);
        read.set(1, 8);
        read.live();
        for (int day = 8; day < 11; day++) {
            read.set(1, day);
            Check.due("now(2) of an ENTRY, READ ON 9, DAY " + day, read.now(2), day == 9 ? 1 : 0);
        }
    }

    private static void needs() {
        Check.sentence("1 KINDS: an ENTRY NEEDS that to which it SENDS ON, a FOREIGN NEEDS it not");
        int[] due = {1, 1, 0, 1, 0, 1};
        for (int kind = 0; kind < 6; kind++) {
            OneReader x = Check.under("reads 9; holds entry = 0; worth 1;");
            x.word(kind * 10, 1, 1);
            x.word(0, 1, -1);
            x.live();
            Check.due("told(0, 7) of KIND " + kind, x.told(0, 7), due[kind]);
            Check.due("now(2) of KIND " + kind, x.now(2), 1);
            Check.due("now(0) of KIND " + kind, x.now(0), 1 - due[kind]);
        }
    }

    // ---- head 2

    private static void aDay() {
        Check.sentence("2 A DAY: THE DAY is 1 more");
        for (int day : new int[] {0, 1, 997, 998}) {
            OneReader x = Books.rich();
            x.set(1, day);
            x.live();
            Check.due("count(3)", x.count(3), day + 1);
        }
        Check.sentence("2 A DAY: CAME is empty then");
        OneReader x = Books.pagesUnder("reads 2 - day; holds 1; worth 1;", 1, 1);
        Check.due("live(), one page", x.live(), 1);
        Check.due("now(1)", x.now(1), 1);
        Check.due("live(), no page", x.live(), 0);
        Check.due("now(1)", x.now(1), 0);
        Check.due("count(2)", x.count(2), 1);
        Check.sentence("2 A DAY: If there are PAGES");
        OneReader none = new OneReader();
        Check.due("live()", none.live(), 0);
        Check.due("count(3)", none.count(3), 1);
        Check.due("count(2)", none.count(2), 0);
        none.word(0, 1, -1);
        Check.due("live(), one page", none.live(), 1);
        Check.due("count(2)", none.count(2), 0);
    }

    private static void begins() {
        Check.sentence("2 A DAY: he BEGINS at THE BOOKMARK's ENTRY's first PAGE (and there is none then)");
        int[] pages = {1, 3, 6};
        for (int mark = 0; mark < 3; mark++) {
            OneReader x = Books.pagesUnder("reads 1; holds 1; worth 1;", 2, 3, 4);
            x.set(0, 8);
            x.set(2, mark);
            Check.due("live(), BOOKMARK at " + mark, x.live(), 1 << mark);
            Check.due("count(2)", x.count(2), pages[mark]);
            Check.due("count(4)", x.count(4), -1);
        }
        Check.sentence("2 A DAY: or, if there is none, at THE PAGE");
        OneReader x = Books.pagesUnder("reads 1; holds 1; worth 1;", 2, 3, 4);
        x.set(0, 8);
        Check.due("live(), no BOOKMARK", x.live(), 4);
        Check.due("count(2)", x.count(2), 0);
    }

    private static void moduloPages() {
        Check.sentence("2 A DAY: THE PAGE (modulo how many PAGES there are)");
        // of 15 PAGES: he begins there, who comes, THE PAGE behind it
        int[][] pages = {{14, 2, 0}, {15, 1, 1}, {16, 1, 2}, {19, 1, 5}};
        for (int[] p : pages) {
            OneReader x = Books.pagesUnder("reads 1; holds 1; worth 1;", 10, 10);
            x.set(0, p[0]);
            x.put(1, 0, 5);
            Check.due("count(2)", x.count(2), p[0]);
            Check.due("live() from " + p[0] + " of 15", x.live(), p[1]);
            Check.due("count(2)", x.count(2), p[2]);
        }
        OneReader x = Books.pagesUnder("reads 1; holds 1; worth 1;", 10, 10);
        x.set(0, 19);
        x.put(0, 0, 1);
        x.put(1, 0, 1);
        Check.due("live() from 19 of 2", x.live(), 2);
        Check.due("count(2)", x.count(2), 0);
        OneReader none = Books.pagesUnder("reads 0; holds 1; worth 1;", 10, 10);
        none.set(0, 19);
        none.put(1, 0, 5);
        Check.due("live() from 19 of 15, none read", none.live(), 0);
        Check.due("count(2), where he began", none.count(2), 4);
    }

    private static void readsFrom(String reads, int pages, int from, int due) {
        int half = pages / 2;
        OneReader x = Books.pagesUnder("reads " + reads + "; holds 1; worth 1;", half, pages - half);
        x.set(0, from);
        x.live();
        Check.due("count(2), reads " + reads + " of " + pages + " from " + from, x.count(2), due);
    }

    private static void noMoreThanThereAre() {
        Check.sentence("2 A DAY: no more than there are");
        readsFrom("9", 10, 0, 9);
        readsFrom("10", 10, 0, 0);
        readsFrom("11", 10, 0, 0);
        readsFrom("9", 10, 3, 2);
        readsFrom("10", 10, 3, 3);
        readsFrom("11", 10, 3, 3);
        readsFrom("99", 10, 3, 3);
        Check.sentence("2 A DAY: so many PAGES as reads tells (99 at most)");
        readsFrom("99", 98, 1, 1);
        readsFrom("99", 99, 1, 1);
        readsFrom("99", 100, 1, 0);
        readsFrom("98", 100, 1, 99);
        readsFrom("100", 100, 1, 0);
        readsFrom("9999", 101, 1, 100);
        Check.sentence("2 A DAY: so many PAGES as reads tells (0 at least)");
        readsFrom("1", 100, 7, 8);
        readsFrom("0", 100, 7, 7);
        readsFrom("-1", 100, 7, 7);
    }

    private static void behindTheLastTheFirst() {
        Check.sentence("2 A DAY: behind the last the first; THE PAGE is the one behind the last that was read");
        int[][] calls = {{13, 1, 14}, {14, 1, 0}, {13, 2, 0}, {14, 2, 1}, {0, 1, 1}, {0, 14, 14}, {0, 15, 0}, {1, 14, 0},
            {1, 15, 1}};
        for (int[] c : calls) {
            readsFrom(Integer.toString(c[1]), 15, c[0], c[2]);
        }
    }

    private static void comes(int from, int reads, int due, int... pages) {
        OneReader x = Books.pagesUnder("reads " + reads + "; holds 1; worth 1;", pages);
        x.set(0, from);
        Check.due("live(), reads " + reads + " from " + from, x.live(), due);
        for (int w = 0; w < pages.length; w++) {
            Check.due("told(" + w + ", 4)", x.told(w, 4), (due >> w & 1) == 1 ? 1 : -1);
        }
    }

    private static void anyOfThese() {
        Check.sentence("2 A DAY: each ENTRY that has any of these CAME, and is READ ON THE DAY");
        int[][] calls = {{0, 1, 1}, {0, 4, 1}, {0, 5, 1}, {0, 6, 3}, {4, 1, 1}, {4, 2, 3}, {5, 1, 2}, {5, 4, 2}, {5, 5, 2},
            {5, 6, 3}, {9, 1, 2}, {9, 2, 3}, {4, 6, 3}, {9, 6, 3}, {9, 7, 3}, {2, 0, 0}, {3, 10, 3}};
        for (int[] c : calls) {
            comes(c[0], c[1], c[2], 5, 5);
        }
        // the wrap passes over the middle one, or over none
        comes(3, 1, 8, 1, 1, 1, 1);
        comes(3, 2, 9, 1, 1, 1, 1);
        comes(3, 3, 11, 1, 1, 1, 1);
        comes(3, 4, 15, 1, 1, 1, 1);
        comes(2, 3, 13, 1, 1, 1, 1);
        comes(6, 10, 3, 4, 6);
        comes(6, 9, 3, 4, 6);
        comes(6, 4, 2, 4, 6);
        comes(6, 8, 3, 4, 6);
    }

    private static void skipped() {
        Check.sentence("2 A DAY: each ENTRY that isn't SKIPPED");
        for (int skips = 0; skips < 8; skips++) {
            OneReader x = Books.pagesUnder("reads 6; holds 1; worth 1;", 2, 2, 3);
            x.set(3, skips);
            Check.due("live(), SKIPPED " + skips, x.live(), 7 & ~skips);
            Check.due("count(2), its pages are read over", x.count(2), 6);
            for (int w = 0; w < 3; w++) {
                Check.due("told(" + w + ", 4)", x.told(w, 4), (skips >> w & 1) == 1 ? -1 : 1);
            }
        }
        OneReader x = Books.entriesUnder("reads 12; holds 1; worth 1;", 12);
        x.set(3, 2048);
        Check.due("live(), the last SKIPPED", x.live(), 2047);
        x.set(3, 4095);
        Check.due("live(), all SKIPPED", x.live(), 0);
    }

    private static void readsOfTheEntry() {
        Check.sentence("2 A DAY: reads (of the ENTRY on that PAGE)");
        int[][] calls = {{4, 1, 5}, {5, 2, 9}, {8, 3, 2}, {9, 3, 3}, {0, 1, 1}};
        for (int[] c : calls) {
            OneReader x = Books.pagesUnder("reads 1+3*entry; holds 1; worth 1;", 5, 5);
            x.set(0, c[0]);
            Check.due("live() from " + c[0], x.live(), c[1]);
            Check.due("count(2)", x.count(2), c[2]);
        }
        OneReader x = Books.pagesUnder("reads 1+3*entry; holds 1; worth 1;", 5, 5);
        x.set(2, 1);
        x.live();
        Check.due("count(2), of the BOOKMARK's", x.count(2), 9);
        x.put(0, 0, 1);
        Check.due("live() from 9 of 6, on 3", x.live(), 3);
        Check.due("count(2)", x.count(2), 1);
    }

    /** ENTRIES of KINDS, each with to which it sends on; all that come hold by themselves but one. */
    private static int heldBut(int not, int... kindsTo) {
        OneReader x = Check.under("reads 99; holds not entry = " + not + "; worth 1;");
        for (int i = 0; i + 1 < kindsTo.length; i += 2) {
            x.word(kindsTo[i] * 10, 1, kindsTo[i + 1]);
        }
        x.live();
        return x.now(0);
    }

    private static void holdsOnAndOn() {
        Check.sentence("2 HOLDS: that one does likewise, and so on");
        Check.due("2 does not", heldBut(2, 0, 1, 0, 2, 0, 3, 0, -1), 8);
        Check.due("3 does not", heldBut(3, 0, 1, 0, 2, 0, 3, 0, -1), 0);
        Check.due("0 does not", heldBut(0, 0, 1, 0, 2, 0, 3, 0, -1), 14);
        Check.sentence("2 HOLDS: till one NEEDS none");
        Check.due("2 does not, 1 is FOREIGN", heldBut(2, 0, 1, 2, 2, 0, 3, 0, -1), 11);
        Check.due("2 does not, 1 is HOUSEWORK", heldBut(2, 0, 1, 4, 2, 0, 3, 0, -1), 11);
        Check.due("1 does not, which is FOREIGN", heldBut(1, 0, 1, 2, 2, 0, 3, 0, -1), 12);
        Check.sentence("2 HOLDS: till there is none");
        Check.due("0 sends on to 2, which isn't there", heldBut(9, 0, 2, 0, 11), 3);
        Check.due("0 sends on to 2, which is", heldBut(2, 0, 2, 0, 11, 0, -1), 2);
        Check.sentence("2 HOLDS: till one comes again");
        Check.due("to itself", heldBut(9, 0, 0), 1);
        Check.due("to itself, but it does not", heldBut(0, 0, 0), 0);
        Check.due("two of a ring, and a tail", heldBut(2, 0, 1, 0, 0, 0, 0), 3);
        Check.due("two of a ring, one does not, and a tail", heldBut(1, 0, 1, 0, 0, 0, 0), 0);
        int[] ring = new int[24];
        int[] line = new int[24];
        for (int w = 0; w < 12; w++) {
            ring[2 * w + 1] = (w + 1) % 12;
            line[2 * w + 1] = w == 11 ? -1 : w + 1;
        }
        Check.due("a ring of twelve", heldBut(12, ring), 4095);
        Check.due("a ring of twelve, one does not", heldBut(5, ring), 0);
        Check.due("a line of twelve", heldBut(12, line), 4095);
        Check.due("a line of twelve, the last does not", heldBut(11, line), 0);
        Check.due("a line of twelve, the first does not", heldBut(0, line), 4094);
    }

    private static void deedsDone() {
        Check.sentence("2 A DEED can be DONE, if all that it needs HOLD");
        // 0 and 1, 1 and 2, 0 and 2, and all but the one that does not hold
        int[] due = {10, 12, 9, 15};
        for (int not = 0; not < 4; not++) {
            OneReader x = Books.entriesUnder("reads 9; holds not entry = " + not + "; worth 1;", 3);
            x.deed(3);
            x.deed(6);
            x.deed(5);
            x.deed(7 & ~(1 << not));
            x.live();
            Check.due("done(0), " + not + " does not hold", x.done(0), due[not]);
        }
        Check.sentence("2 A DEED's WORTH: worth, of the lowest ENTRY that it needs");
        int[][] sets = {{1, 1}, {2049, 1}, {2048, 12}, {3072, 11}, {4095, 1}, {4094, 2}};
        for (int[] set : sets) {
            OneReader x = Books.entriesUnder("reads 12; holds 1; worth entry+1;", 12);
            x.deed(set[0]);
            x.live();
            Check.due("done(1) of " + set[0], x.done(1), set[1]);
        }
    }

    private static void daysInThought() {
        Check.sentence("2 n DAYS: 0 .. 60");
        Supplier<OneReader> daily = Books::daily;
        Bound.call(daily, "run", V, 0).unchanged(0, 0).unchanged(6, 1).unchanged(354, 59).unchanged(360, 60)
            .unchanged(-2, -1, 61, MIN, MAX);
        Check.sentence("2 n DAYS: there THE DAY may pass 999");
        for (int past : new int[] {999, 1000, 1001, 1058, 1059}) {
            OneReader x = Books.entriesUnder("reads 1; holds day = " + past + "; worth 1;", 1);
            x.deed(1);
            x.set(1, 999);
            int n = past - 999;
            Check.due("run(" + n + ", 2), DAY " + past, x.run(n, 2), n == 0 ? 0 : 1);
            Check.due("run(" + Math.max(0, n - 1) + ", 2)", x.run(Math.max(0, n - 1), 2), 0);
            Check.due("when(0, 0, 60)", x.when(0, 0, 60), n - 1);
            Check.due("drawn(0, 60, 2)", x.drawn(0, 60, 2), n == 0 ? 0 : 1);
            Check.due("begin(60, 1)", x.begin(60, 1), n == 0 ? 0 : 1);
            Check.due("count(3)", x.count(3), 999);
        }
        // a SPRING takes THE DAY modulo 10 there, too
        OneReader x = new OneReader();
        x.word(33, 1, -1);
        x.word(0, 1, -1);
        x.set(1, 999);
        x.set(3, 1);
        Check.due("when(0, 0, 9), DAY 1003", x.when(0, 0, 9), 3);
        Check.due("when(0, 0, 3)", x.when(0, 0, 3), -1);
    }
}
