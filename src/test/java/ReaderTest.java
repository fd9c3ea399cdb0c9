/** Promises 1 to 7: the reader, the law. */
public final class ReaderTest {
    private static final int MIN = Integer.MIN_VALUE, MAX = Integer.MAX_VALUE;

    public static void main(String[] args) {
        newObject();
        count();
        set();
        feed();
        goodTexts();
        faults();
        depth();
        fullOfTexts();
        force();
        asks();
        values();
        Check.end();
    }

    private static void newObject() {
        Check.promise(1);
        OneReader x = new OneReader();
        long[] counts = {0, 0, 0, 0, -1, 0, 1, 0, 0};
        for (int what = 0; what < counts.length; what++) {
            Check.due("count(" + what + ")", x.count(what), counts[what]);
        }
        Check.due("told(0, 0)", x.told(0, 0), -5);
        Check.due("needs(0)", x.needs(0), -5);
        Check.due("back()", x.back(), OneReader.STATE);
        for (int s = 0; s < 4; s++) {
            Check.due("judge(" + s + ")", x.judge(s), -11);
        }
        Check.due("NONE", OneReader.NONE, -1);
        Check.due("BAD", OneReader.BAD, -2);
        Check.due("STATE", OneReader.STATE, -3);
        Check.due("FULL", OneReader.FULL, -4);
        Check.due("NO", OneReader.NO, -4611686018427387904L);
    }

    private static void count() {
        Check.promise(2);
        OneReader x = Check.under("reads 3; holds 1; worth 1;");
        x.word(0, 5, -1);
        x.word(0, 7, -1);
        x.deed(3);
        x.live();
        x.set(2, 1);
        x.set(3, 2);
        Check.feed(x, "abcd");
        long[] counts = {2, 1, 3, 1, 1, 2, 2, 1, 4};
        for (int what = 0; what < counts.length; what++) {
            Check.due("count(" + what + ")", x.count(what), counts[what]);
        }
        for (int what : new int[] {-1, 9, MIN, MAX}) {
            Check.due("count(" + what + ")", x.count(what), OneReader.BAD);
        }
    }

    private static void set() {
        Check.promise(3);
        OneReader x = new OneReader();
        Check.due("set(0, 0), no pages", x.set(0, 0), 0);
        Check.due("set(0, 1), no pages", x.set(0, 1), -7);
        Check.due("set(2, 0), no entry", x.set(2, 0), -7);
        Check.due("set(3, 1), no entry", x.set(3, 1), -7);
        x.word(0, 5, -1);
        x.word(0, 7, -1);
        int[][] calls = {
            {0, 11, 0}, {0, 12, -7}, {0, -1, -7}, {0, 3, 11}, {0, MAX, -7}, {0, 0, 3},
            {1, 999, 0}, {1, 1000, -7}, {1, -1, -7}, {1, 17, 999}, {1, MIN, -7}, {1, 0, 17},
            {2, 1, -1}, {2, 2, -7}, {2, -2, -7}, {2, 0, 1}, {2, -1, 0}, {2, -1, -1},
            {3, 3, 0}, {3, 4, -7}, {3, -1, -7}, {3, 2, 3}, {3, 0, 2},
            {4, 0, -5}, {-1, 0, -5}, {4, -9, -5}, {MIN, MIN, -5}, {MAX, 0, -5}};
        for (int[] c : calls) {
            Check.due("set(" + c[0] + ", " + c[1] + ")", x.set(c[0], c[1]), c[2]);
        }
        x.set(1, 5);
        x.set(1, 1000);
        Check.due("count(3) after a refusal", x.count(3), 5);
        for (int i = 0; i < 10; i++) {
            x.word(0, 1, -1);
        }
        Check.due("set(3, 4095), twelve entries", x.set(3, 4095), 0);
        Check.due("set(3, 4096)", x.set(3, 4096), -7);
        Check.due("set(2, 11)", x.set(2, 11), -1);
        Check.due("set(2, 12)", x.set(2, 12), -7);
    }

    private static void feed() {
        Check.promise(4);
        OneReader x = new OneReader();
        Check.due("feed(1)", x.feed(1, 'a', 0, 255, 0, 0), 1);
        Check.due("feed(5)", x.feed(5, 0, 255, 1, 2, 3), 6);
        Check.due("feed(0)", x.feed(0, 0, 0, 0, 0, 0), -2);
        Check.due("feed(6)", x.feed(6, 0, 0, 0, 0, 0), -2);
        Check.due("feed(MIN)", x.feed(MIN, 0, 0, 0, 0, 0), -2);
        for (int i = 0; i < 5; i++) {
            for (int v : new int[] {-1, 256, MIN, MAX}) {
                int[] b = new int[5];
                b[i] = v;
                Check.due("feed(1) with " + v + " as byte " + i, x.feed(1, b[0], b[1], b[2], b[3], b[4]), -2);
            }
        }
        Check.due("count(8)", x.count(8), 6);
        for (int i = 0; i < 30; i++) {
            x.feed(5, 'a', 'b', 'c', 'd', 'e');
        }
        Check.due("count(8)", x.count(8), 156);
        Check.due("feed(5) at 156", x.feed(5, 0, 0, 0, 0, 0), -4);
        Check.due("count(8), none came", x.count(8), 156);
        Check.due("feed(3) at 156", x.feed(3, 0, 0, 0, 0, 0), 159);
        Check.due("feed(2) at 159", x.feed(2, 0, 0, 0, 0, 0), -4);
        Check.due("feed(1) at 159", x.feed(1, 0, 0, 0, 0, 0), 160);
        Check.due("feed(1) at 160", x.feed(1, 0, 0, 0, 0, 0), -4);
        Check.due("feed(1) at 160 with a bad one", x.feed(1, 0, 0, 0, 0, 256), -2);
        OneReader y = new OneReader();
        y.feed(3, 'r', 'e', 'a', 'X', 'X');
        y.feed(2, 'd', 's', 'X', 'X', 'X');
        Check.due("text(): the bytes came one by one", y.text(), -105);
    }

    private static void goodTexts() {
        Check.promise(5);
        String[] good = {
            "reads 10 ; holds 1 ; worth 5 + words ;",
            "reads1;holds1;worth1;",
            " \n\n reads\n0001 ; holds 1;worth 1; \n ",
            "reads 9999; holds not not 1; worth - - 1;",
            "reads day+more*pages-entry; holds words<behind or words=behind and not day; worth (1);",
            "reads 1 and not 1<1 or 0; holds (1<2)<3; worth -(1)*-1--1;"};
        for (String text : good) {
            OneReader x = new OneReader();
            Check.due("text() of " + text, Check.text(x, text), 1);
            Check.due("count(8)", x.count(8), 0);
            Check.due("count(6)", x.count(6), 2);
            Check.due("count(7)", x.count(7), 0);
        }
        OneReader all = new OneReader();
        String long160 = "reads 1;holds 1;worth 1" + "+1".repeat(68) + ";";
        Check.due("its size", long160.length(), 160);
        Check.due("text() of 160 bytes", Check.text(all, long160), 1);
        all.force(1);
        all.word(0, 1, -1);
        Check.due("asks(2)", all.asks(2, 0, 0, 0), 69);
    }

    private static void fault(String text, int place) {
        OneReader x = new OneReader();
        Check.due("text() of '" + text + "'", Check.text(x, text), -100 - place);
        Check.due("count(8) after '" + text + "'", x.count(8), 0);
        Check.due("count(6) after '" + text + "'", x.count(6), 1);
    }

    private static void faults() {
        Check.promise(5);
        fault("", 0);
        fault("  ", 2);
        fault("a", 0);
        fault("reads 1; holds 1; worth 1", 25);
        fault("reads 1; holds 1; worth 1  ", 27);
        fault("reads 1; holds 1;", 17);
        fault("reads", 5);
        fault("reads ;", 6);
        fault("reads 1 2;", 8);
        fault("reads 10day;holds 1;worth 1;", 8);
        fault("reads 12345;", 6);
        fault("reads 00001;", 6);
        fault("reads 1234", 10);
        fault("read 1;", 0);
        fault("holds 1;", 0);
        fault("reads 1; worth 1;", 9);
        fault("readsday;", 0);
        fault("reads reads;", 6);
        fault("reads dayx;", 6);
        fault("reads da;", 6);
        fault("reads dayz;", 6);
        fault("reads zday;", 6);
        fault("reads Day;", 6);
        fault("reads 1\t;", 7);
        fault("reads $", 6);
        fault("reads \u00e9", 6);
        fault("reads \u0000;", 6);
        fault("reads \u0001;", 6);
        fault("reads \u0002;", 6);
        fault("reads 1 < 2 < 3;", 12);
        fault("reads 1 = 2 < 3;", 12);
        fault("reads 1 < not 2;", 10);
        fault("reads 1 + not 2;", 10);
        fault("reads - not 2;", 8);
        fault("reads 1 or;", 10);
        fault("reads or 1;", 6);
        fault("reads and 1;", 6);
        fault("reads 1 + ;", 10);
        fault("reads + 1;", 6);
        fault("reads * 1;", 6);
        fault("reads 1 * * 1;", 10);
        fault("reads < 1;", 6);
        fault("reads (1;", 8);
        fault("reads (1", 8);
        fault("reads 1);", 7);
        fault("reads ();", 7);
        fault("reads 1 (2);", 8);
        fault("reads 1;holds 1;worth 1;x", 24);
        fault("reads 1;holds 1;worth 1; ;", 25);
        fault("reads 1;holds 1;worth 1; 1", 25);
        fault("reads 1 ) 12345 $", 8);
        fault("reads 1 $ ) 12345", 8);
        fault("reads 1;holds 1;worth 1" + "+1".repeat(68) + "1", 160);
        fault("reads 1;holds 1;worth 1+" + "+1".repeat(68), 24);
        fault("reads " + "1".repeat(154), 6);
        fault("reads " + "a".repeat(154), 6);
        OneReader x = new OneReader();
        Check.due("a number too long", Check.text(x, "reads 12345"), -106);
        Check.due("what stood there before is gone", Check.text(x, "reads 1234"), -110);
        Check.due("a longer word", Check.text(x, "reads dayx"), -106);
        Check.due("what stood there before is gone", Check.text(x, "reads day"), -109);
    }

    private static void depth() {
        Check.promise(5);
        String rest = "; holds 1; worth 1;";
        Check.due("five (", Check.text(new OneReader(), "reads (((((1)))))" + rest), 1);
        fault("reads ((((((1))))))" + rest, 11);
        Check.due("five not", Check.text(new OneReader(), "reads not not not not not 1" + rest), 1);
        fault("reads not not not not not not 1" + rest, 26);
        Check.due("five -", Check.text(new OneReader(), "reads -----1" + rest), 1);
        fault("reads ------1" + rest, 11);
        Check.due("a mix", Check.text(new OneReader(), "reads not(not(-1))" + rest), 1);
        fault("reads not(not(-(1)))" + rest, 15);
        fault("reads (not(not(-1)))" + rest, 15);
        Check.due("closed ones", Check.text(new OneReader(), "reads (1)+(1)+(1)+(1)+(1)+(((((1)))))" + rest), 1);
        Check.due("- that ended", Check.text(new OneReader(), "reads -1+-1*-1--1+-1+-1+-----1" + rest), 1);
        Check.due("not that ended",
            Check.text(new OneReader(), "reads not 1 and not 1 or not 1 and not 1 or not 1 or not((((1))))" + rest), 1);
        fault("reads ((((- - 1))))" + rest, 12);
        fault("reads -((((1+-1))))" + rest, 13);
        Check.due("a - between two", Check.text(new OneReader(), "reads (((((1-1)))))" + rest), 1);
    }

    private static void fullOfTexts() {
        Check.promise(5);
        OneReader x = new OneReader();
        for (int t = 1; t < 6; t++) {
            Check.due("text()", Check.text(x, "reads 1;holds 1;worth 1;"), t);
        }
        Check.feed(x, "$$$");
        Check.due("text(), full, ahead of its FAULT", x.text(), -4);
        Check.due("count(8), the tape stays", x.count(8), 3);
        Check.due("count(6)", x.count(6), 6);
    }

    private static void force() {
        Check.promise(6);
        OneReader x = new OneReader();
        Check.due("force(1)", x.force(1), -2);
        Check.text(x, "reads 1;holds 1;worth 1;");
        Check.text(x, "reads 2;holds 1;worth 1;");
        Check.due("force(2)", x.force(2), 0);
        Check.due("force(1)", x.force(1), 2);
        Check.due("force(3)", x.force(3), -2);
        Check.due("force(-1)", x.force(-1), -2);
        Check.due("force(MAX)", x.force(MAX), -2);
        Check.due("count(7)", x.count(7), 1);
        Check.due("force(0)", x.force(0), 1);
    }

    private static void asks() {
        Check.promise(7);
        OneReader x = Check.under("reads words*10+behind; holds words-behind; worth 90+more*words;");
        x.word(4, 9, -1);
        Check.due("asks(0, 0, 3, 7)", x.asks(0, 0, 3, 7), 37);
        Check.due("asks(0, 0, 12, 999), the bound", x.asks(0, 0, 12, 999), 99);
        Check.due("asks(1, 0, 3, 7), below 0 is yes", x.asks(1, 0, 3, 7), 1);
        Check.due("asks(1, 0, 9, 7)", x.asks(1, 0, 9, 7), 1);
        Check.due("asks(1, 0, 7, 7)", x.asks(1, 0, 7, 7), 0);
        Check.due("asks(2, 0, 2, 0)", x.asks(2, 0, 2, 0), 98);
        Check.due("asks(2, 0, 3, 0)", x.asks(2, 0, 3, 0), 99);
        int[][] bad = {{-1, 0, 0, 0}, {3, 0, 0, 0}, {0, -1, 0, 0}, {0, 1, 0, 0}, {0, 0, -1, 0}, {0, 0, 13, 0},
            {0, 0, 0, -1}, {0, 0, 0, 1000}, {MIN, MIN, MIN, MIN}, {MAX, 0, 0, 0}, {0, MAX, 0, 0}};
        for (int[] b : bad) {
            Check.due("asks(" + b[0] + ", " + b[1] + ", " + b[2] + ", " + b[3] + ")",
                x.asks(b[0], b[1], b[2], b[3]), -2);
        }
        OneReader y = new OneReader();
        y.word(0, 1, -1);
        Check.due("asks(0), text 0", y.asks(0, 0, 12, 999), 10);
        Check.due("asks(1), text 0", y.asks(1, 0, 0, 0), 1);
        Check.due("asks(2), text 0", y.asks(2, 0, 12, 0), 17);
    }

    private static void value(String e, int want) {
        OneReader x = Check.under("reads " + e + "; holds " + e + "; worth " + e + ";");
        x.word(0, 9, -1);
        x.word(27, 31, -1);
        x.set(1, 44);
        Check.due("reads " + e, x.asks(0, 1, 5, 63), want);
        Check.due("holds " + e, x.asks(1, 1, 5, 63), want == 0 ? 0 : 1);
        Check.due("worth " + e, x.asks(2, 1, 5, 63), want);
    }

    private static void values() {
        Check.promise(7);
        value("day", 44);
        value("more", 7);
        value("pages", 31);
        value("entry", 1);
        value("words", 5);
        value("behind", 63);
        value("2+3*4", 14);
        value("(2+3)*4", 20);
        value("10-3-2", 5);
        value("10-(3-2)", 9);
        value("7", 7);
        value("0007", 7);
        value("7 or 0", 1);
        value("0 or 0", 0);
        value("2 and 4", 1);
        value("2 and 0", 0);
        value("0 and 2", 0);
        value("0 and 2 or 3", 1);
        value("3 or 2 and 0", 1);
        value("not 5", 0);
        value("not 0", 1);
        value("not not 5", 1);
        value("not 0 and 0", 0);
        value("not 1 < 2", 0);
        value("1+1 < 3", 1);
        value("3 < 3", 0);
        value("3 = 3", 1);
        value("2+2 = 2*2", 1);
        value("4 = 5", 0);
        value("-1 < 0", 1);
        value("0 < -1", 0);
        value("-2*-3", 6);
        value("5--3", 8);
        value("(0 or 3)+1", 2);
        value("9999*9999*9999 < 0", 1);
        // 2 to the 32nd is 0, and to the 31st the least int
        value("4096*4096*256", 0);
        value("4096*4096*128 < 0", 1);
        value("4096*4096*128-1 < 0", 0);
        OneReader x = Check.under("reads 0-1; holds 0-1; worth 0-1;");
        x.word(0, 1, -1);
        Check.due("reads -1", x.asks(0, 0, 0, 0), 0);
        Check.due("holds -1", x.asks(1, 0, 0, 0), 1);
        Check.due("worth -1", x.asks(2, 0, 0, 0), 0);
        OneReader y = Check.under("reads 100; holds 100; worth 100;");
        y.word(0, 1, -1);
        Check.due("reads 100", y.asks(0, 0, 0, 0), 99);
        Check.due("worth 100", y.asks(2, 0, 0, 0), 99);
    }
}
