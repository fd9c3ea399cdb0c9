/** Promises 25 to 30: told days. The days of three() are told in DaysTest: 0, 3, 2, 0, 0, 0, 3 hold. */
public final class ToldDaysTest {
    private static final int MIN = Integer.MIN_VALUE, MAX = Integer.MAX_VALUE;

    public static void main(String[] args) {
        judge();
        bytesAreSigned();
        begins();
        kinds();
        mores();
        sendsOn();
        skipped();
        laws();
        film();
        refusals();
        Check.end();
    }

    private static void tell(OneReader x, int s, int sort, int... rows) {
        x.sheet(s, sort, rows.length);
        for (int i = 0; i < rows.length; i++) {
            x.cell(s, i, rows[i]);
        }
    }

    private static void judge() {
        Check.promise(25);
        OneReader x = DaysTest.three();
        for (int sort = 0; sort < 3; sort++) {
            tell(x, sort, sort, 0, 3, 2, 0, 0, 0, 3);
            Check.due("judge(" + sort + ")", x.judge(sort), -1);
        }
        for (int i = 0; i < 7; i++) {
            x.cell(2, i, 4);
            Check.due("judge(2), day " + i + " told otherwise", x.judge(2), i);
            x.cell(2, i, i == 1 || i == 6 ? 3 : i == 2 ? 2 : 0);
        }
        x.cell(2, 1, 3 + 65536);
        Check.due("judge(2), a bit that is no entry's", x.judge(2), 1);
        x.cell(2, 1, 3);
        x.live();
        Check.due("judge(2), a day later", x.judge(2), 0);
        tell(x, 3, 0, 3, 2, 0);
        Check.due("judge(3), a day later", x.judge(3), -1);
        x.sheet(3, 1, 0);
        Check.due("judge(3), none told", x.judge(3), -1);
        Check.due("count(3)", x.count(3), 1);
    }

    private static void bytesAreSigned() {
        Check.promise(25);
        OneReader x = Check.under("reads 1; holds 1; worth 1;");
        for (int w = 0; w < 8; w++) {
            x.word(20, 1, -1);
        }
        x.set(0, 7);
        tell(x, 0, 0, 128);
        Check.due("judge(0), 128 as a byte", x.judge(0), 0);
        tell(x, 0, 1, 128);
        Check.due("judge(0), 128 as a short", x.judge(0), -1);
    }

    private static void begins() {
        Check.promise(26);
        OneReader x = DaysTest.three();
        x.set(0, 2);
        x.set(2, 2);
        tell(x, 0, 2, 2);
        Check.due("begins(0) of 2", x.begins(0), 2);
        tell(x, 0, 2, 0);
        Check.due("begins(0) of 0", x.begins(0), 5);
        tell(x, 0, 2, 0, 3);
        Check.due("begins(0) of 0, 3", x.begins(0), 1);
        tell(x, 0, 2, 0, 4);
        Check.due("begins(0) of 0, 4", x.begins(0), 0);
        x.sheet(0, 2, 0);
        Check.due("begins(0) of none", x.begins(0), 7);
        Check.due("count(2)", x.count(2), 2);
        Check.due("count(4)", x.count(4), 2);
    }

    private static void kinds() {
        Check.promise(27);
        OneReader x = DaysTest.three();
        // a foreign one needs 1 not; a torn one takes 2 pages, so that 1 comes, too
        tell(x, 0, 2, 1);
        Check.due("kinds(0, 0, 0) of 1", x.kinds(0, 0, 0), 4 + 16);
        tell(x, 0, 2, 3);
        Check.due("kinds(0, 0, 0) of 3", x.kinds(0, 0, 0), 32);
        tell(x, 0, 2, 0);
        Check.due("kinds(0, 0, 0) of 0", x.kinds(0, 0, 0), 1 + 2 + 8);
        tell(x, 0, 2, 0, 3, 2, 0);
        // a habit of 0 days is as an entry, and so is a spring, from day 0 on
        Check.due("kinds(0, 1, 0)", x.kinds(0, 1, 0), 1 + 2 + 4 + 8 + 16);
        x.sheet(0, 2, 0);
        Check.due("kinds(0, 2, 0) of none", x.kinds(0, 2, 0), 63);
        Check.due("kinds(0, 2, 1) of none", x.kinds(0, 2, 1), 1023);
        Check.due("kinds(0, 2, 2) of none", x.kinds(0, 2, 2), 15);
        Check.due("told(0, 0)", x.told(0, 0), 0);
    }

    private static int mores(int kindMore, int skips, int... rows) {
        OneReader x = Check.under("reads 1; holds 1; worth 1;");
        x.word(kindMore, 1, -1);
        x.word(20, 1, -1);
        x.set(3, skips);
        tell(x, 0, 1, rows);
        int bits = x.kinds(0, 0, 1);
        Check.due("told(0, 1)", x.told(0, 1), kindMore % 10);
        return bits;
    }

    private static void mores() {
        Check.promise(27);
        Check.due("kinds(0, 0, 1), torn", mores(53, 0, 1), 0x155);
        Check.due("kinds(0, 0, 1), torn", mores(50, 0, 0), 0x2aa);
        Check.due("kinds(0, 0, 1), housework", mores(40, 1, 1), 0x3e0);
        Check.due("kinds(0, 0, 1), habit of a day or more", mores(15, 0, 1, 3, 1), 0x3fe);
        Check.due("kinds(0, 0, 1), spring", mores(30, 1, 0, 2, 1), 1 << 3);
        Check.due("kinds(0, 0, 1), entry", mores(0, 0, 1, 2, 1), 0x3ff);
        Check.due("kinds(0, 0, 1), foreign: 3 or more take another page", mores(20, 0, 1, 1), 0x3f8);
    }

    private static void sendsOn() {
        Check.promise(27);
        OneReader x = DaysTest.three();
        tell(x, 0, 2, 1);
        Check.due("kinds(0, 0, 2) of 1", x.kinds(0, 0, 2), 1 + 2);
        tell(x, 0, 2, 0);
        Check.due("kinds(0, 0, 2) of 0", x.kinds(0, 0, 2), 4 + 8);
        Check.due("told(0, 3)", x.told(0, 3), 1);
        Check.due("kinds(0, 3, 0)", x.kinds(0, 3, 0), -5);
        Check.due("kinds(0, -1, 9)", x.kinds(0, -1, 9), -5);
        for (int sort : new int[] {-1, 3, MIN, MAX}) {
            Check.due("kinds(0, 0, " + sort + ")", x.kinds(0, 0, sort), -7);
        }
    }

    private static void skipped() {
        Check.promise(28);
        OneReader x = DaysTest.three();
        for (int skips = 0; skips < 8; skips++) {
            x.set(3, skips);
            tell(x, 0, 2, 0, 3, 2);
            Check.due("skipped(0), none or 2", x.skipped(0), 4096 + 4);
            tell(x, 0, 2, 0, 2, 2);
            Check.due("skipped(0), 0", x.skipped(0), 1);
            tell(x, 0, 2, 0, 0, 0);
            Check.due("skipped(0), 1", x.skipped(0), 2);
            tell(x, 0, 2, 0, 7);
            Check.due("skipped(0), neither", x.skipped(0), 0);
            Check.due("count(5)", x.count(5), skips);
        }
        OneReader none = new OneReader();
        none.sheet(0, 0, 3);
        Check.due("skipped(0), no entries", none.skipped(0), 4096);
    }

    private static void laws() {
        Check.promise(29);
        OneReader x = DaysTest.three();
        Check.text(x, "reads 3; holds 0; worth 1;");
        Check.text(x, "reads 4; holds 1; worth 1;");
        for (int law = 0; law < 4; law++) {
            x.force(law);
            tell(x, 0, 2, 0, 3, 2);
            Check.due("laws(0) of 0, 3, 2", x.laws(0), 2);
            tell(x, 0, 2, 0);
            Check.due("laws(0) of 0", x.laws(0), 14);
            tell(x, 0, 2, 7);
            Check.due("laws(0) of 7", x.laws(0), 1);
            x.sheet(0, 2, 0);
            Check.due("laws(0) of none", x.laws(0), 15);
            Check.due("count(7)", x.count(7), law);
        }
    }

    private static void film() {
        Check.promise(30);
        OneReader x = DaysTest.three();
        Check.due("film(0, 7)", x.film(0, 7), 7);
        Check.due("judge(0)", x.judge(0), -1);
        tell(x, 1, 1, 9, 9, 9, 9, 9, 9, 9, 9);
        Check.due("copy(0, 0, 1, 0, 8): 7 of them", x.copy(0, 0, 1, 0, 8), -12);
        Check.due("copy(0, 0, 1, 0, 7): shorts", x.copy(0, 0, 1, 0, 7), 7);
        x.cell(1, 7, 2);
        Check.due("judge(1)", x.judge(1), -1);
        x.sheet(2, 2, 9);
        Check.due("copy(0, 0, 2, 0, 1): no ints", x.copy(0, 0, 2, 0, 1), -13);
        Check.due("film(2, 0)", x.film(2, 0), 0);
        Check.due("cell(2, 0, 1)", x.cell(2, 0, 1), -12);
        Check.due("film(2, 40)", x.film(2, 40), 40);
        Check.due("cell(2, 39, 9)", x.cell(2, 39, 9), 1);
        Check.due("judge(2)", x.judge(2), 39);
        Check.due("count(3)", x.count(3), 0);
        for (int[] c : new int[][] {{-1, 1}, {4, 1}, {0, -1}, {0, 41}, {MIN, MIN}, {MAX, 0}, {0, MAX}}) {
            Check.due("film(" + c[0] + ", " + c[1] + ")", x.film(c[0], c[1]), -2);
        }
        Check.due("judge(0), unchanged by refusals", x.judge(0), -1);
        OneReader y = Check.under("reads 1; holds 1; worth 1;");
        for (int w = 0; w < 12; w++) {
            y.word(45, 1, -1);
        }
        y.film(0, 3);
        tell(y, 1, 2, 4095, 4095, 4095);
        Check.due("judge(0), all twelve", y.judge(0), -1);
        Check.due("judge(1), all twelve", y.judge(1), -1);
    }

    private static void refusals() {
        OneReader x = DaysTest.three();
        int[] sheets = {-1, 4, MIN, MAX, 0};
        for (int s : sheets) {
            int due = s == 0 ? -11 : -2;
            Check.promise(25);
            Check.due("judge(" + s + ")", x.judge(s), due);
            Check.promise(26);
            Check.due("begins(" + s + ")", x.begins(s), due);
            Check.promise(27);
            Check.due("kinds(" + s + ", 0, 0)", x.kinds(s, 0, 0), due);
            Check.due("kinds(" + s + ", 9, 9)", x.kinds(s, 9, 9), due);
            Check.promise(28);
            Check.due("skipped(" + s + ")", x.skipped(s), due);
            Check.promise(29);
            Check.due("laws(" + s + ")", x.laws(s), due);
        }
    }
}
