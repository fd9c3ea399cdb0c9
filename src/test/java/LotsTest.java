/**
 * Promises 31 to 34: days by lots. By SEED 0 the lots are 48271, 182605794, 1291394886, 1914720637, 2078669041:
 * modulo 100 they are 71, 94, 86, 37, 41.
 */
public final class LotsTest {
    private static final int MIN = Integer.MIN_VALUE, MAX = Integer.MAX_VALUE;

    public static void main(String[] args) {
        pages();
        whats();
        drawnRefusals();
        odds();
        oddsRefusals();
        image();
        Check.end();
    }

    /** Entries of 3, 3 and 54 pages, none of which needs another; he reads 3 a day. */
    private static OneReader book() {
        OneReader x = Check.under("reads 3; holds 1; worth 5+words;");
        x.word(0, 3, -1);
        x.word(0, 3, -1);
        x.word(0, 54, -1);
        x.deed(1);
        return x;
    }

    private static void pages() {
        Check.promise(31);
        OneReader x = book();
        int[][] byOdds = {{0, 15}, {37, 15}, {38, 12}, {40, 12}, {41, 12}, {42, 9}, {72, 9}, {86, 9}, {87, 6}, {94, 6},
            {95, 3}, {100, 3}};
        for (int[] o : byOdds) {
            Check.due("drawn(0, 5, " + o[0] + "4)", x.drawn(0, 5, 10 * o[0] + 4), o[1]);
        }
        // this seed's first lot is the second one of seed 0
        Check.due("drawn(48270, 4, 404)", x.drawn(48270, 4, 404), 9);
        Check.due("drawn(48270, 4, 864)", x.drawn(48270, 4, 864), 6);
        Check.due("drawn(48270, 4, 874)", x.drawn(48270, 4, 874), 3);
        Check.due("drawn(0, 0, 1004)", x.drawn(0, 0, 1004), 0);
        Check.due("drawn(0, 1, 1004)", x.drawn(0, 1, 1004), 3);
        x.set(2, 1);
        Check.due("drawn(0, 5, 1004), from the bookmark", x.drawn(0, 5, 1004), 6);
        Check.due("drawn(0, 2, 4), from the bookmark", x.drawn(0, 2, 4), 9);
        Check.due("count(4)", x.count(4), 1);
        Check.due("count(3)", x.count(3), 0);
        OneReader y = book();
        y.set(0, 58);
        y.put(2, 0, 10);
        Check.due("drawn(0, 3, 1004), where he began of 16 pages", y.drawn(0, 3, 1004), 13);
        Check.due("drawn(99999, 60, 1004), no pages", new OneReader().drawn(99999, 60, 1004), 0);
        OneReader z = new OneReader();
        z.image();
        z.word(0, 60, -1);
        z.run(5, 4);
        z.back();
        Check.due("drawn(0, 5, 1004), no pages any more", z.drawn(0, 5, 1004), 0);
    }

    private static void whats() {
        Check.promise(31);
        OneReader x = book();
        Check.due("drawn(0, 5, 1000)", x.drawn(0, 5, 1000), 30);
        Check.due("drawn(0, 5, 1001)", x.drawn(0, 5, 1001), 1);
        Check.due("drawn(0, 5, 1002)", x.drawn(0, 5, 1002), 1);
        Check.due("drawn(0, 5, 1003)", x.drawn(0, 5, 1003), 1);
        Check.due("drawn(0, 5, 0)", x.drawn(0, 5, 0), 6);
        Check.due("drawn(0, 5, 1)", x.drawn(0, 5, 1), 1);
        Check.due("drawn(0, 5, 2)", x.drawn(0, 5, 2), 7);
        Check.due("drawn(0, 5, 3)", x.drawn(0, 5, 3), 7);
        for (int what = 0; what < 5; what++) {
            Check.due("drawn by odds of 0", x.drawn(12345, 33, what), x.run(33, what));
        }
    }

    private static void drawnRefusals() {
        Check.promise(31);
        OneReader x = book();
        int[][] bad = {{-1, 5, 0}, {100000, 5, 0}, {0, -1, 0}, {0, 61, 0}, {0, 5, -1}, {0, 5, 5}, {0, 5, 9}, {0, 5, 505},
            {0, 5, 1005}, {0, 5, 1010}, {0, 5, -10}, {MIN, MIN, MIN}, {MAX, MAX, MAX}, {0, 5, MAX}, {0, 5, MIN}};
        for (int[] b : bad) {
            Check.due("drawn(" + b[0] + ", " + b[1] + ", " + b[2] + ")", x.drawn(b[0], b[1], b[2]), -2);
        }
        Check.due("drawn(99999, 60, 1003)", x.drawn(99999, 60, 1003), 1);
    }

    private static void odds(int seed, int daysSeeds, int w, int odds, int above, int below) {
        OneReader x = book();
        String call = "odds(" + seed + ", " + daysSeeds + ", " + w + ", " + odds + ", ";
        Check.due(call + "0)", x.odds(seed, daysSeeds, w, odds, 0), above);
        Check.due(call + "1)", x.odds(seed, daysSeeds, w, odds, 1), below);
    }

    private static void odds() {
        Check.promise(32);
        // second lots of seeds 0 .. 11, modulo 100: 94, 88, 82, 76, 70, 64, 58, 52, 46, 40, 34, 81
        odds(0, 210, 1, 60, 3, 5);
        odds(0, 212, 1, 60, 7, 12);
        odds(6, 204, 1, 60, 0, 1);
        odds(0, 206, 1, 60, 1, 1);
        odds(11, 201, 1, 60, 1, 1);
        odds(0, 206, 1, 64, 1, 1);
        odds(0, 206, 1, 65, 5, 6);
        odds(0, 204, 1, 80, 3, 4);
        odds(0, 204, 1, 85, 1, 2);
        odds(0, 130, 1, 0, 0, 1);
        odds(0, 130, 0, 0, 1, 1);
        odds(0, 230, 1, 100, 0, 1);
        odds(0, 230, 1, 0, 1, 1);
        odds(0, 30, 0, 0, 0, 1);
        odds(99999, 6030, 0, 50, 1, 1);
    }

    private static void oddsRefusals() {
        Check.promise(32);
        OneReader x = book();
        int[][] none = {{-1, 210, 1, 60, 0}, {100000, 210, 1, 60, 0}, {0, 200, 1, 60, 0}, {0, 231, 1, 60, 0},
            {0, 299, 1, 60, 0}, {0, 6101, 1, 60, 0}, {0, -1, 1, 60, 0}, {0, -170, 1, 60, 0}, {0, 210, -1, 60, 0},
            {0, 210, 3, 60, 0}, {0, 210, 1, -1, 0}, {0, 210, 1, 101, 0}, {0, 210, 1, 60, -1}, {0, 210, 1, 60, 2},
            {MIN, MIN, MIN, MIN, MIN}, {MAX, MAX, MAX, MAX, MAX}, {0, MIN, 0, 0, 0}, {0, MAX, 0, 0, 0}};
        for (int[] n : none) {
            Check.due("odds(" + n[0] + ", " + n[1] + ", " + n[2] + ", " + n[3] + ", " + n[4] + ")",
                x.odds(n[0], n[1], n[2], n[3], n[4]), OneReader.NO);
        }
    }

    private static void image() {
        OneReader x = book();
        Check.promise(34);
        Check.due("back(), no image", x.back(), -3);
        x.live();
        x.set(2, 1);
        x.set(3, 4);
        Check.promise(33);
        Check.due("image()", x.image(), 3);
        int t = Check.text(x, "reads 60; holds 1; worth 1;");
        x.force(t);
        x.word(0, 5, 0);
        x.deed(8);
        x.put(0, 0, 9);
        x.put(1, 1, 0);
        x.live();
        x.live();
        x.set(3, 1);
        x.set(2, 0);
        x.sheet(0, 0, 5);
        Check.feed(x, "ab");
        Check.promise(34);
        for (int again = 0; again < 2; again++) {
            Check.due("back()", x.back(), 3);
            long[] counts = {3, 1, 3, 1, 1, 4, 3, 1, again == 0 ? 2 : 0};
            for (int what = 0; what < counts.length; what++) {
                Check.due("count(" + what + ")", x.count(what), counts[what]);
            }
            Check.due("now(1)", x.now(1), 1);
            Check.due("now(0)", x.now(0), 1);
            Check.due("told(0, 2)", x.told(0, 2), 3);
            Check.due("told(1, 3)", x.told(1, 3), -1);
            Check.due("told(1, 6)", x.told(1, 6), 3);
            Check.due("told(0, 4)", x.told(0, 4), 1);
            Check.due("told(1, 4)", x.told(1, 4), -1);
            Check.due("told(3, 0)", x.told(3, 0), -5);
            Check.due("needs(0)", x.needs(0), 1);
            Check.due("needs(1)", x.needs(1), -5);
            Check.due("chain(1)", x.chain(1), 2);
            Check.due("cell(0, 4, 1): sheets stay", x.cell(0, 4, 1), 1);
            x.text();
            x.live();
            x.set(1, 500);
            x.deed(7);
        }
        Check.due("word(19, 2, 1), another than before", x.word(19, 2, 1), 3);
        Check.due("told(3, 0)", x.told(3, 0), 1);
        Check.due("told(3, 4)", x.told(3, 4), -1);
        Check.promise(33);
        Check.due("image(), a new one", x.image(), 4);
        x.live();
        Check.due("back()", x.back(), 4);
        Check.due("count(3)", x.count(3), 500);
    }
}
