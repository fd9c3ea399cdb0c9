/** Promises 8 to 10: entries. */
public final class EntriesTest {
    private static final int MIN = Integer.MIN_VALUE, MAX = Integer.MAX_VALUE;

    public static void main(String[] args) {
        word();
        told();
        readOn();
        put();
        Check.end();
    }

    private static void word() {
        Check.promise(8);
        OneReader x = new OneReader();
        int[][] bad = {{-1, 1, 0}, {60, 1, 0}, {0, 0, 0}, {0, 61, 0}, {0, 1, -2}, {0, 1, 12}, {MIN, 1, 0}, {MAX, 1, 0},
            {0, MIN, 0}, {0, MAX, 0}, {0, 1, MIN}, {0, 1, MAX}};
        for (int[] b : bad) {
            Check.due("word(" + b[0] + ", " + b[1] + ", " + b[2] + ")", x.word(b[0], b[1], b[2]), -2);
        }
        Check.due("count(0)", x.count(0), 0);
        Check.due("word(0, 1, -1)", x.word(0, 1, -1), 0);
        Check.due("word(59, 60, 11)", x.word(59, 60, 11), 1);
        for (int w = 2; w < 12; w++) {
            Check.due("word, number " + w, x.word(w, w, w), w);
        }
        Check.due("word, one too many", x.word(0, 1, 0), -4);
        Check.due("word, bad and one too many", x.word(60, 1, 0), -2);
        Check.due("count(0)", x.count(0), 12);
        Check.due("told(1, 0)", x.told(1, 0), 5);
        Check.due("told(1, 1)", x.told(1, 1), 9);
        Check.due("told(1, 2)", x.told(1, 2), 60);
        Check.due("told(1, 3)", x.told(1, 3), 11);
        Check.due("told(1, 4)", x.told(1, 4), -1);
    }

    private static void takes(int kindMore, int many, int want, int needs) {
        OneReader x = new OneReader();
        x.word(0, 4, -1);
        x.word(kindMore, many, -1);
        x.word(0, 1, -1);
        String word = " of word(" + kindMore + ", " + many + ")";
        Check.due("told(1, 0)" + word, x.told(1, 0), kindMore / 10);
        Check.due("told(1, 1)" + word, x.told(1, 1), kindMore % 10);
        Check.due("told(1, 2)" + word, x.told(1, 2), many);
        Check.due("told(1, 3)" + word, x.told(1, 3), -1);
        Check.due("told(1, 5)" + word, x.told(1, 5), want);
        Check.due("told(1, 6)" + word, x.told(1, 6), 4);
        Check.due("told(2, 6) behind" + word, x.told(2, 6), 4 + want);
        Check.due("told(1, 7)" + word, x.told(1, 7), needs);
    }

    private static void told() {
        Check.promise(9);
        takes(9, 7, 7, 1);
        takes(19, 7, 7, 1);
        takes(20, 5, 5, 0);
        takes(22, 5, 5, 0);
        takes(23, 5, 6, 0);
        takes(27, 5, 7, 0);
        takes(29, 60, 63, 0);
        takes(39, 7, 7, 1);
        takes(46, 3, 5, 0);
        takes(42, 3, 3, 0);
        takes(59, 20, 10, 1);
        takes(50, 21, 10, 1);
        takes(50, 2, 1, 1);
        takes(50, 1, 1, 1);
        takes(50, 60, 30, 1);
        OneReader x = new OneReader();
        x.word(0, 4, 7);
        for (int w : new int[] {-1, 1, MIN, MAX}) {
            Check.due("told(" + w + ", 0)", x.told(w, 0), -5);
            Check.due("told(" + w + ", 8)", x.told(w, 8), -5);
        }
        for (int what : new int[] {-1, 8, MIN, MAX}) {
            Check.due("told(0, " + what + ")", x.told(0, what), -7);
        }
        Check.due("told(0, 3)", x.told(0, 3), 7);
    }

    private static void readOn() {
        Check.promise(9);
        OneReader x = Check.under("reads 3; holds 1; worth 1;");
        x.word(0, 3, -1);
        x.word(0, 5, -1);
        Check.due("told(0, 4)", x.told(0, 4), -1);
        x.live();
        Check.due("told(0, 4)", x.told(0, 4), 1);
        Check.due("told(1, 4)", x.told(1, 4), -1);
        x.live();
        Check.due("told(0, 4)", x.told(0, 4), 1);
        Check.due("told(1, 4)", x.told(1, 4), 2);
    }

    private static void put() {
        Check.promise(10);
        OneReader x = new OneReader();
        x.word(0, 4, 7);
        x.word(50, 9, -1);
        Check.due("put(0, 0, 60)", x.put(0, 0, 60), 4);
        Check.due("put(0, 0, 6)", x.put(0, 0, 6), 60);
        Check.due("told(0, 2)", x.told(0, 2), 6);
        Check.due("told(0, 5)", x.told(0, 5), 6);
        Check.due("told(1, 6)", x.told(1, 6), 6);
        Check.due("put(1, 0, 1)", x.put(1, 0, 1), 9);
        Check.due("told(1, 5)", x.told(1, 5), 1);
        Check.due("put(0, 1, -1)", x.put(0, 1, -1), 7);
        Check.due("put(0, 1, 11)", x.put(0, 1, 11), -1);
        Check.due("told(0, 3)", x.told(0, 3), 11);
        int[][] calls = {{-1, 0, 1, -5}, {2, 0, 1, -5}, {2, 9, 99, -5}, {MAX, 0, 1, -5}, {0, -1, 1, -7}, {0, 2, 1, -7},
            {0, 0, 0, -7}, {0, 0, 61, -7}, {0, 1, -2, -7}, {0, 1, 12, -7}, {0, MIN, 1, -7}, {0, 0, MIN, -7},
            {0, 1, MAX, -7}};
        for (int[] c : calls) {
            Check.due("put(" + c[0] + ", " + c[1] + ", " + c[2] + ")", x.put(c[0], c[1], c[2]), c[3]);
        }
        Check.due("told(0, 2)", x.told(0, 2), 6);
        Check.due("told(0, 3)", x.told(0, 3), 11);
        x.set(0, 6);
        x.put(0, 0, 1);
        Check.due("count(2): the page stays, if the book gets shorter", x.count(2), 6);
    }
}
