/** Promises 35 to 39: the host. */
public final class HostTest {
    private static final int MIN = Integer.MIN_VALUE, MAX = Integer.MAX_VALUE;

    public static void main(String[] args) {
        sheet();
        cell();
        copy();
        copyWithin();
        wordsBy();
        wordsByOfSorts();
        wordsByRefusals();
        taken();
        Check.end();
    }

    private static void sheet() {
        Check.promise(35);
        OneReader x = new OneReader();
        int[][] calls = {{-1, 0, 1, -2}, {4, 0, 1, -2}, {0, -2, 1, -2}, {0, 3, 1, -2}, {0, 0, 41, -2}, {0, 0, MAX, -2},
            {0, 0, -1, -14}, {0, 2, MIN, -14}, {4, 0, -1, -2}, {0, 3, -1, -2}, {0, -1, -5, 1}, {0, -1, 99, 1},
            {0, 0, 0, 1}, {1, 1, 40, 1}, {2, 2, 3, 1}, {3, 0, 1, 1}, {MIN, 0, 0, -2}, {0, MIN, 0, -2}};
        for (int[] c : calls) {
            Check.due("sheet(" + c[0] + ", " + c[1] + ", " + c[2] + ")", x.sheet(c[0], c[1], c[2]), c[3]);
        }
        Check.due("cell(0, 0, 1)", x.cell(0, 0, 1), -12);
        Check.due("cell(1, 39, 1)", x.cell(1, 39, 1), 1);
        Check.due("cell(1, 40, 1)", x.cell(1, 40, 1), -12);
        Check.due("sheet(1, 0, 41) changes nothing", x.sheet(1, 0, 41), -2);
        Check.due("judge(1)", x.judge(1), 39);
        Check.due("sheet(1, 1, 40), all 0 again", x.sheet(1, 1, 40), 1);
        Check.due("judge(1)", x.judge(1), -1);
        Check.due("sheet(1, -1, 0)", x.sheet(1, -1, 0), 1);
        Check.due("cell(1, 0, 1)", x.cell(1, 0, 1), -11);
        Check.due("judge(1)", x.judge(1), -11);
    }

    private static void cell() {
        Check.promise(36);
        OneReader x = new OneReader();
        x.sheet(0, 0, 2);
        x.sheet(1, 1, 2);
        x.sheet(2, 2, 2);
        int[][] calls = {{0, 0, 5, 1}, {0, 1, 5, 1}, {0, 2, 5, -12}, {0, -1, 5, -12}, {0, MAX, 5, -12}, {0, MIN, 5, -12},
            {3, 0, 5, -11}, {3, 9, 5, -11}, {4, 0, 5, -2}, {-1, 0, 5, -2}, {4, 9, 5, -2}};
        for (int[] c : calls) {
            Check.due("cell(" + c[0] + ", " + c[1] + ", " + c[2] + ")", x.cell(c[0], c[1], c[2]), c[3]);
        }
        // a sheet of 0 tells true where no entry is; so what is cut off shows
        int[] v = {256, 65536, 65536 + 256, 1, -65536};
        int[][] judged = {{-1, 0, 0}, {-1, -1, 0}, {-1, 0, 0}, {0, 0, 0}, {-1, -1, 0}};
        for (int k = 0; k < v.length; k++) {
            for (int s = 0; s < 3; s++) {
                x.sheet(s, s, 1);
                x.cell(s, 0, v[k]);
                Check.due("judge(" + s + ") of " + v[k], x.judge(s), judged[k][s]);
            }
        }
    }

    /** Which numbers of a sheet of ints are 0: where no entry is, a sheet that is all 0 tells true. */
    private static void stands(OneReader x, int s, int... due) {
        int spare = s == 3 ? 2 : 3;
        for (int i = 0; i < due.length; i++) {
            x.sheet(spare, 2, 1);
            x.copy(s, i, spare, 0, 1);
            Check.due("cell " + i + " of sheet " + s + " is 0", x.judge(spare), due[i] == 0 ? -1 : 0);
        }
    }

    private static void copy() {
        Check.promise(37);
        OneReader x = new OneReader();
        x.sheet(0, 2, 5);
        x.sheet(1, 2, 3);
        x.sheet(2, 1, 5);
        x.cell(0, 1, 7);
        x.cell(0, 2, 8);
        int[][] calls = {{0, 1, 1, 0, 2, 2}, {0, 0, 1, 0, 4, -12}, {0, 3, 1, 0, 3, -12}, {0, 0, 1, 1, 3, -12},
            {0, -1, 1, 0, 1, -12}, {0, 0, 1, -1, 1, -12}, {0, 0, 1, 0, -1, -12}, {0, 5, 1, 3, 0, 0}, {0, 6, 1, 0, 0, -12},
            {0, 0, 1, 4, 0, -12}, {0, MAX, 1, 0, MAX, -12}, {0, 2, 1, 2, MAX, -12}, {0, MIN, 1, MIN, MIN, -12},
            {0, 0, 2, 0, 1, -13}, {2, 0, 0, 0, 1, -13}, {0, 9, 2, 9, 9, -13}, {0, 0, 3, 0, 1, -11}, {3, 0, 0, 0, 1, -11},
            {3, 9, 2, 9, 9, -11}, {3, 0, 3, 0, 0, -11}, {-1, 0, 0, 0, 1, -2}, {0, 0, -1, 0, 1, -2}, {4, 0, 3, 0, 1, -2},
            {3, 0, 4, 0, 1, -2}, {MAX, 0, MIN, 0, 0, -2}};
        for (int[] c : calls) {
            Check.due("copy(" + c[0] + ", " + c[1] + ", " + c[2] + ", " + c[3] + ", " + c[4] + ")",
                x.copy(c[0], c[1], c[2], c[3], c[4]), c[5]);
        }
        stands(x, 1, 7, 8, 0);
        stands(x, 0, 0, 7, 8, 0, 0);
    }

    private static void copyWithin() {
        Check.promise(37);
        OneReader x = new OneReader();
        x.sheet(0, 2, 5);
        x.cell(0, 0, 7);
        x.cell(0, 2, 9);
        Check.due("copy(0, 0, 0, 1, 4)", x.copy(0, 0, 0, 1, 4), 4);
        stands(x, 0, 7, 7, 0, 9, 0);
        Check.due("copy(0, 1, 0, 0, 4)", x.copy(0, 1, 0, 0, 4), 4);
        stands(x, 0, 7, 0, 9, 0, 0);
    }

    private static void row(OneReader x, int s, int sort, int... v) {
        x.sheet(s, sort, v.length);
        for (int i = 0; i < v.length; i++) {
            x.cell(s, i, v[i]);
        }
    }

    private static void wordsBy() {
        Check.promise(38);
        OneReader x = new OneReader();
        row(x, 0, 2, 9, 47, 3, -1, 99, 1, 1, 12, 60, 11, 5);
        Check.due("wordsBy(0, 2, 1, 3), the second left out", x.wordsBy(0, 2, 1, 3), 2);
        Check.due("count(0)", x.count(0), 2);
        Check.due("told(0, 0)", x.told(0, 0), 4);
        Check.due("told(0, 1)", x.told(0, 1), 7);
        Check.due("told(0, 2)", x.told(0, 2), 3);
        Check.due("told(0, 3)", x.told(0, 3), -1);
        Check.due("told(1, 1)", x.told(1, 1), 2);
        Check.due("told(1, 2)", x.told(1, 2), 60);
        Check.due("told(1, 3)", x.told(1, 3), 11);
        Check.due("wordsBy(0, 2, 1, 4): what stood ahead came", x.wordsBy(0, 2, 1, 4), -12);
        Check.due("count(0)", x.count(0), 4);
        Check.due("wordsBy(0, 2, 0, 0)", x.wordsBy(0, 2, 0, 0), 0);
        Check.due("wordsBy(0, 2, 99, 0): no place is looked at", x.wordsBy(0, 2, 99, 0), 0);
        Check.due("wordsBy(0, 2, 9, 1)", x.wordsBy(0, 2, 9, 1), -12);
        Check.due("wordsBy(0, 2, 8, 1)", x.wordsBy(0, 2, 8, 1), 0);
        Check.due("wordsBy(0, 2, 7, 1)", x.wordsBy(0, 2, 7, 1), 1);
        for (int from : new int[] {-1, -3, MIN, MAX, MAX - 1, 11, 41}) {
            Check.due("wordsBy(0, 2, " + from + ", 1)", x.wordsBy(0, 2, from, 1), -12);
        }
        Check.due("wordsBy(0, 2, -3, 2)", x.wordsBy(0, 2, -3, 2), -12);
        Check.due("count(0)", x.count(0), 5);
        row(x, 1, 2, new int[36]);
        for (int i = 0; i < 36; i++) {
            x.cell(1, i, 1);
        }
        Check.due("wordsBy(1, 2, 0, 12), the book gets full", x.wordsBy(1, 2, 0, 12), 7);
        Check.due("count(0)", x.count(0), 12);
        Check.due("wordsBy(1, 2, 30, 3), full and past the end", x.wordsBy(1, 2, 30, 3), -12);
    }

    private static void wordsByOfSorts() {
        Check.promise(38);
        for (int sort = 0; sort < 3; sort++) {
            OneReader x = new OneReader();
            row(x, 0, sort, 59, 60, -1);
            Check.due("wordsBy(0, " + sort + ", 0, 1)", x.wordsBy(0, sort, 0, 1), 1);
            Check.due("told(0, 3), -1 is none in any sort", x.told(0, 3), -1);
            Check.due("told(0, 2)", x.told(0, 2), 60);
        }
    }

    private static void wordsByRefusals() {
        Check.promise(38);
        OneReader x = new OneReader();
        row(x, 0, 2, 0, 1, 0);
        int[][] calls = {{-1, 2, 0, 1, -2}, {4, 2, 0, 1, -2}, {0, -1, 0, 1, -2}, {0, 3, 0, 1, -2}, {0, 2, 0, -1, -2},
            {0, 2, 0, 13, -2}, {1, 2, 0, 13, -2}, {1, 3, 0, 1, -2}, {1, 2, 0, 1, -11}, {1, 0, -9, 1, -11},
            {0, 1, 0, 1, -13}, {0, 0, -9, 1, -13}, {0, 1, 0, 0, -13}, {MIN, MIN, MIN, MIN, -2}, {0, MAX, 0, 1, -2},
            {0, 2, 0, MAX, -2}};
        for (int[] c : calls) {
            Check.due("wordsBy(" + c[0] + ", " + c[1] + ", " + c[2] + ", " + c[3] + ")",
                x.wordsBy(c[0], c[1], c[2], c[3]), c[4]);
        }
        Check.due("count(0)", x.count(0), 0);
    }

    private static void taken() {
        Check.promise(39);
        OneReader x = new OneReader();
        for (int kind = 0; kind < 6; kind++) {
            x.word(kind * 10, 1, -1);
        }
        x.deed(5);
        x.deed(32);
        String[] as = {"100000", "110000", "101000", "110100", "101010", "100001"};
        for (int i = 0; i < 6; i++) {
            for (int kind = 0; kind < 7; kind++) {
                boolean is = kind < 6 && as[i].charAt(kind) == '1';
                Check.due("taken(" + i + ", " + kind + ")", x.taken(i, kind), is ? i : -13);
            }
        }
        Check.due("taken(12, 6)", x.taken(12, 6), 5);
        Check.due("taken(13, 6)", x.taken(13, 6), 32);
        for (int kind = 0; kind < 6; kind++) {
            Check.due("taken(12, " + kind + ")", x.taken(12, kind), -13);
        }
        int[][] calls = {{0, -1, -2}, {0, 7, -2}, {99, 7, -2}, {-1, 0, -12}, {18, 6, -12}, {MIN, 0, -12}, {MAX, 6, -12},
            {6, 0, -11}, {11, 6, -11}, {14, 6, -11}, {17, 0, -11}, {0, MIN, -2}, {0, MAX, -2}};
        for (int[] c : calls) {
            Check.due("taken(" + c[0] + ", " + c[1] + ")", x.taken(c[0], c[1]), c[2]);
        }
    }
}
