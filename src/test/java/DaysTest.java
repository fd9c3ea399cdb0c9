/** Promises 11 to 17: days, deeds. */
public final class DaysTest {
    private static final int MIN = Integer.MIN_VALUE, MAX = Integer.MAX_VALUE;
    /** What comes, holds by itself, holds, and the page at last, day by day, in three(). */
    private static final int[][] THREE = {{1, 1, 0, 3}, {3, 3, 3, 6}, {6, 6, 2, 9}, {4, 4, 0, 12}, {4, 4, 0, 0},
        {1, 1, 0, 3}, {3, 3, 3, 6}};

    public static void main(String[] args) {
        live();
        beginsAtBookmark();
        skips();
        readsAsTold();
        bookGetsShorter();
        lastDay();
        now();
        kinds();
        behindAndWords();
        chains();
        deed();
        done();
        run();
        pastTheLastDay();
        when();
        Check.end();
    }

    /** Pages 0 .. 3 of entry 0, which needs 1; 4 .. 6 of 1, which sends on to none; 7 .. 14 of 2, which needs 0. */
    static OneReader three() {
        OneReader x = Check.under("reads 3; holds 1; worth 5+words;");
        x.word(0, 4, 1);
        x.word(0, 3, -1);
        x.word(0, 8, 0);
        return x;
    }

    private static void live() {
        Check.promise(11);
        OneReader x = three();
        for (int day = 1; day <= THREE.length; day++) {
            int[] due = THREE[day - 1];
            Check.due("live() of day " + day, x.live(), due[0]);
            Check.due("now(1) on day " + day, x.now(1), due[0]);
            Check.due("now(2) on day " + day, x.now(2), due[1]);
            Check.due("now(0) on day " + day, x.now(0), due[2]);
            Check.due("count(2) on day " + day, x.count(2), due[3]);
            Check.due("count(3) on day " + day, x.count(3), day);
        }
        x.set(0, 14);
        Check.due("live() from the last page", x.live(), 5);
        Check.due("count(2)", x.count(2), 2);
        OneReader none = new OneReader();
        Check.due("live(), no pages", none.live(), 0);
        Check.due("count(3)", none.count(3), 1);
        Check.due("count(2)", none.count(2), 0);
    }

    private static void beginsAtBookmark() {
        Check.promise(11);
        OneReader x = three();
        x.set(2, 2);
        Check.due("live() at the bookmark", x.live(), 4);
        Check.due("count(4)", x.count(4), -1);
        Check.due("count(2)", x.count(2), 10);
        Check.due("live() without it", x.live(), 4);
        Check.due("count(2)", x.count(2), 13);
    }

    private static void skips() {
        Check.promise(11);
        OneReader x = three();
        x.set(3, 1);
        Check.due("live(), 0 skipped", x.live(), 0);
        Check.due("told(0, 4)", x.told(0, 4), -1);
        Check.due("count(2)", x.count(2), 3);
        Check.due("live(), 0 skipped", x.live(), 2);
        Check.due("told(1, 4)", x.told(1, 4), 2);
        Check.due("count(5)", x.count(5), 1);
    }

    private static void readsAsTold() {
        Check.promise(11);
        OneReader x = Check.under("reads entry*2+day+pages*100; holds 1; worth 1;");
        x.word(0, 1, -1);
        x.word(0, 1, -1);
        x.word(0, 1, -1);
        Check.due("live(), no more than there are", x.live(), 7);
        Check.due("count(2)", x.count(2), 0);
        OneReader y = Check.under("reads entry*2+day+more+words+behind; holds 1; worth 1;");
        y.word(1, 5, -1);
        y.word(0, 5, -1);
        // day 1: 0 + 1 + 1, of entry 0; day 2: 0 + 2 + 1; day 3: 2 + 3, of entry 1
        Check.due("live()", y.live(), 1);
        Check.due("count(2)", y.count(2), 2);
        Check.due("live()", y.live(), 1);
        Check.due("count(2)", y.count(2), 5);
        Check.due("live()", y.live(), 2);
        Check.due("count(2)", y.count(2), 0);
        OneReader z = Check.under("reads 0; holds 1; worth 1;");
        z.word(0, 5, -1);
        z.word(0, 5, -1);
        z.set(0, 3);
        Check.due("live(), nothing read", z.live(), 0);
        Check.due("count(2)", z.count(2), 3);
        z.set(2, 1);
        Check.due("live(), nothing read", z.live(), 0);
        Check.due("count(2), where he began", z.count(2), 5);
        Check.due("count(4)", z.count(4), -1);
        OneReader most = Check.under("reads 1000; holds 1; worth 1;");
        most.word(0, 60, -1);
        most.word(0, 60, -1);
        most.live();
        Check.due("count(2), 99 read", most.count(2), 99);
    }

    private static void bookGetsShorter() {
        Check.promise(11);
        OneReader x = three();
        x.set(0, 13);
        x.put(2, 0, 3);
        Check.due("live() from 13 of 10", x.live(), 3);
        Check.due("count(2)", x.count(2), 6);
    }

    private static void lastDay() {
        Check.promise(11);
        OneReader x = three();
        x.set(1, 998);
        Check.due("live() of 999", x.live(), 1);
        Check.due("live() behind 999", x.live(), -4);
        Check.due("count(3)", x.count(3), 999);
        Check.due("now(1)", x.now(1), 1);
        Check.due("count(2)", x.count(2), 3);
    }

    private static void now() {
        Check.promise(12);
        OneReader x = three();
        Check.due("now(0)", x.now(0), 0);
        Check.due("now(1)", x.now(1), 0);
        for (int what : new int[] {-1, 3, MIN, MAX}) {
            Check.due("now(" + what + ")", x.now(what), -2);
        }
        x.live();
        x.set(1, 7);
        Check.due("now(2): not read on the day", x.now(2), 0);
        Check.due("now(1): he came all the same", x.now(1), 1);
        x.set(1, 1);
        Check.due("now(2): read on the day", x.now(2), 1);
    }

    /** Whether an entry holds by itself on days from the one on which it is read; '1' yes, '0' no. */
    private static void holds(int kindMore, String holds, int readOn, String due) {
        OneReader x = Check.under("reads 1; holds " + holds + "; worth 1;");
        x.word(kindMore, 1, -1);
        x.word(0, 1, -1);
        x.set(1, readOn - 1);
        for (int i = 0; i < due.length(); i++) {
            x.live();
            x.set(2, 1);
            Check.due("now(2) & 1, word " + kindMore + ", holds " + holds + ", day " + (readOn + i),
                x.now(2) & 1, due.charAt(i) - '0');
        }
    }

    private static void kinds() {
        Check.promise(12);
        holds(9, "1", 1, "100000");
        holds(9, "0", 1, "000000");
        holds(12, "1", 1, "111000");
        holds(10, "1", 1, "1000");
        holds(19, "1", 1, "11111111110");
        holds(12, "0", 1, "0000");
        holds(29, "1", 1, "1000");
        holds(29, "0", 1, "0000");
        // 5 by 2 is 2: from day 2 on a habit of 5 days, and day 5, 15 in any case
        holds(35, "1", 1, "0111110000" + "000010");
        holds(35, "0", 1, "0000100000" + "000010");
        holds(31, "1", 8, "11010000");
        holds(30, "1", 1, "1000000001");
        holds(39, "1", 1, "0001111110" + "000000001");
        holds(44, "1", 1, "1000");
        holds(45, "1", 1, "1111");
        holds(45, "0", 1, "1111");
        holds(44, "0", 1, "0000");
        holds(50, "1", 1, "1000");
        holds(58, "1", 1, "1000");
        holds(51, "1", 1, "0000");
        holds(59, "1", 1, "0000");
        holds(50, "0", 1, "0000");
        OneReader x = new OneReader();
        x.word(19, 1, -1);
        x.word(33, 1, -1);
        x.word(45, 1, -1);
        x.word(0, 1, -1);
        Check.due("now(2), never read", x.now(2), 4);
        x.set(1, 3);
        Check.due("now(2), day 3", x.now(2), 6);
        x.set(1, 993);
        Check.due("now(2), day 993", x.now(2), 6);
    }

    private static void behindAndWords() {
        Check.promise(12);
        OneReader x = Check.under("reads 2; holds words = 1 and behind = 2; worth 1;");
        x.word(19, 1, -1);
        x.word(0, 3, -1);
        x.live();
        Check.due("now(2): two came", x.now(2), 0);
        x.live();
        Check.due("now(2): one came, 1 behind", x.now(2), 0);
        x.set(0, 1);
        x.live();
        Check.due("now(2): one came, 2 behind", x.now(2), 1);
        x.set(3, 2);
        x.set(0, 1);
        x.set(1, 2);
        x.live();
        Check.due("now(2): none came", x.now(2), 0);
        OneReader y = Check.under("reads 1; holds behind = 0; worth 1;");
        y.word(10, 1, -1);
        y.word(0, 1, -1);
        y.set(1, 8);
        y.live();
        y.set(1, 5);
        Check.due("now(2), the day set back: 0 behind, not read on it", y.now(2), 1);
        y.put(0, 1, 1);
        Check.due("now(0): what it needs does not hold", y.now(0), 0);
        OneReader z = Check.under("reads 9; holds day = 1 and more = 2 and pages = 3 and entry = 1; worth 1;");
        z.word(2, 3, -1);
        z.word(2, 3, -1);
        z.live();
        Check.due("now(2) of names", z.now(2), 2);
    }

    private static void chains() {
        Check.promise(12);
        OneReader x = Check.under("reads 9; holds not entry = 3; worth 1;");
        x.word(0, 1, 1);
        x.word(0, 1, 0);
        x.word(0, 1, 3);
        x.word(0, 1, -1);
        x.word(20, 1, 3);
        x.word(0, 1, 4);
        x.word(0, 1, 11);
        x.word(0, 1, 2);
        x.live();
        // 0 and 1 need each other; 2 needs 3; 4 needs none; 5 needs 4; nothing is at 11; 7 needs 2
        Check.due("now(2)", x.now(2), 0xf7);
        Check.due("now(0)", x.now(0), 0x73);
        x.set(3, 1);
        x.live();
        Check.due("now(0), 0 skipped", x.now(0), 0x70);
    }

    private static void deed() {
        Check.promise(13);
        OneReader x = new OneReader();
        Check.due("deed(1), no entry", x.deed(1), -2);
        x.word(0, 1, -1);
        x.word(0, 1, -1);
        for (int set : new int[] {0, -1, 4, MIN, MAX}) {
            Check.due("deed(" + set + ")", x.deed(set), -2);
        }
        for (int d = 0; d < 6; d++) {
            Check.due("deed, number " + d, x.deed(1 + d % 3), d);
        }
        Check.due("deed, one too many", x.deed(1), -4);
        Check.due("deed, bad and one too many", x.deed(4), -2);
        Check.due("count(1)", x.count(1), 6);
        Check.promise(14);
        for (int d = 0; d < 6; d++) {
            Check.due("needs(" + d + ")", x.needs(d), 1 + d % 3);
        }
        for (int d : new int[] {-1, 6, MIN, MAX}) {
            Check.due("needs(" + d + ")", x.needs(d), -5);
        }
    }

    private static void done() {
        Check.promise(15);
        OneReader x = Check.under("reads 3; holds 1; worth 10*entry+words+day;");
        x.word(0, 4, 1);
        x.word(0, 3, -1);
        x.word(0, 8, 0);
        x.deed(2);
        x.deed(3);
        x.deed(6);
        x.deed(1);
        Check.due("done(0)", x.done(0), 0);
        Check.due("done(1)", x.done(1), 0);
        x.live();
        Check.due("done(0)", x.done(0), 0);
        x.live();
        Check.due("done(0): 0 and 1 hold", x.done(0), 11);
        Check.due("done(1): 13 and 4 and 3", x.done(1), 20);
        x.live();
        Check.due("done(0): 1 holds", x.done(0), 1);
        Check.due("done(1)", x.done(1), 14);
        for (int what : new int[] {-1, 2, MIN, MAX}) {
            Check.due("done(" + what + ")", x.done(what), -2);
        }
        OneReader y = Check.under("reads 3; holds 1; worth behind+entry*60+more*20;");
        y.word(0, 1, -1);
        y.word(3, 1, -1);
        y.word(1, 1, -1);
        y.deed(1);
        y.deed(2);
        y.deed(4);
        y.live();
        Check.due("done(1): 0 and 99, the bound, twice", y.done(1), 198);
    }

    private static void run() {
        Check.promise(16);
        OneReader x = three();
        x.deed(2);
        x.deed(3);
        x.deed(6);
        // worth: 0, then 6 + 7, then 6, then 0, 0, and again
        int[] worth = {0, 0, 13, 19, 19, 19, 19, 32, 38};
        int[] done = {0, 0, 3, 3, 3, 3, 3, 3, 3};
        int[] held = {0, 0, 3, 3, 3, 3, 3, 3, 3};
        int[] came = {0, 1, 3, 7, 7, 7, 7, 7, 7};
        int[] page = {0, 3, 6, 9, 12, 0, 3, 6, 9};
        for (int n = 0; n < worth.length; n++) {
            Check.due("run(" + n + ", 0)", x.run(n, 0), worth[n]);
            Check.due("run(" + n + ", 1)", x.run(n, 1), done[n]);
            Check.due("run(" + n + ", 2)", x.run(n, 2), held[n]);
            Check.due("run(" + n + ", 3)", x.run(n, 3), came[n]);
            Check.due("run(" + n + ", 4)", x.run(n, 4), page[n]);
        }
        Check.due("run(60, 0)", x.run(60, 0), 12 * 19);
        for (int[] c : new int[][] {{-1, 0}, {61, 0}, {0, -1}, {0, 5}, {MIN, MIN}, {MAX, 0}}) {
            Check.due("run(" + c[0] + ", " + c[1] + ")", x.run(c[0], c[1]), -2);
        }
        x.set(2, 1);
        Check.due("run(1, 0) from the bookmark", x.run(1, 0), 6);
        Check.due("run(2, 4) from the bookmark", x.run(2, 4), 10);
        Check.due("count(4): asked, nothing changed", x.count(4), 1);
        Check.due("count(3)", x.count(3), 0);
        Check.due("now(1)", x.now(1), 0);
        Check.due("told(1, 4)", x.told(1, 4), -1);
        OneReader y = three();
        y.live();
        y.live();
        y.deed(3);
        Check.due("run(0, 2): today is none of the days", y.run(0, 2), 0);
        Check.due("run(0, 3)", y.run(0, 3), 0);
        Check.due("run(0, 4)", y.run(0, 4), 6);
        Check.due("run(3, 0)", y.run(3, 0), 0);
    }

    private static void pastTheLastDay() {
        Check.promise(16);
        OneReader x = Check.under("reads 1; holds day = 1002; worth 1;");
        x.word(0, 1, -1);
        x.set(1, 999);
        Check.due("run(2, 2)", x.run(2, 2), 0);
        Check.due("run(3, 2)", x.run(3, 2), 1);
        Check.due("when(0, 0, 9)", x.when(0, 0, 9), 2);
        Check.due("live()", x.live(), -4);
    }

    private static void when() {
        Check.promise(17);
        OneReader x = three();
        x.deed(2);
        x.deed(4);
        x.live();
        x.live();
        // from day 3 on: 1 holds at once, 0 with it on day 7, 2 never
        int[][] calls = {{0, 1, 9, 0}, {0, 0, 9, 4}, {0, 0, 5, 4}, {0, 0, 4, -1}, {0, 2, 60, -1}, {0, 1, 0, -1},
            {1, 0, 9, 0}, {1, 1, 60, -1}, {0, 3, 9, -5}, {0, -1, 9, -5}, {1, 2, 9, -5}, {1, -1, 9, -5}, {2, 0, 9, -5},
            {-1, 0, 9, -5}, {0, 0, -1, -7}, {0, 0, 61, -7}, {1, 0, MIN, -7}, {1, 0, MAX, -7}, {2, 0, 61, -5},
            {0, 3, 61, -5}, {0, MAX, 9, -5}, {MIN, MIN, MIN, -5}};
        for (int[] c : calls) {
            Check.due("when(" + c[0] + ", " + c[1] + ", " + c[2] + ")", x.when(c[0], c[1], c[2]), c[3]);
        }
        Check.due("count(3)", x.count(3), 2);
    }
}
