import java.util.function.Consumer;

/** Promises 33 to 39, and SHEETS: each sentence that names a boundary. */
public final class HostBoundsTest {
    private static final int V = Bound.V, MIN = Bound.MIN, MAX = Bound.MAX;

    public static void main(String[] args) {
        image();
        keeps();
        keepsOfEach();
        keepsNot();
        back();
        sheets();
        sheet();
        cell();
        lowestBits();
        copyRefusals();
        copyPlaces();
        asTheyWere();
        wordsByRefusals();
        wordsByPlaces();
        leftOut();
        wordsBySorts();
        taken();
        Check.end();
    }

    // ---- images

    private static void image() {
        Check.sentence("promise 33: AN IMAGE is kept: how many ENTRIES");
        Check.due("image(), no ENTRIES", new OneReader().image(), 0);
        Check.due("image()", Books.rich().image(), 3);
        Check.due("image(), twelve ENTRIES", Books.full().image(), 12);
        OneReader x = Books.rich();
        x.image();
        x.back();
        long[] counts = {3, 2, 6, 2, 1, 4, 2, 1, 15};
        for (int what = 0; what < 9; what++) {
            Check.due("count(" + what + ") behind image() and back()", x.count(what), counts[what]);
        }
        Check.sentence("promise 33: of several the last one is kept");
        OneReader y = Books.rich();
        y.word(0, 1, -1);
        y.image();
        y.back();
        Check.due("count(0)", y.count(0), 4);
        Check.due("count(2)", y.count(2), 6);
    }

    /** What an image keeps is as if it had not been changed. */
    private static void kept(String what, Consumer<OneReader> change) {
        OneReader x = Books.rich();
        x.image();
        OneReader twin = Books.rich();
        twin.image();
        change.accept(x);
        Check.due("back() behind " + what, x.back(), 3);
        Check.same(what + " and back()", Everything.of(x), Everything.of(twin));
    }

    private static void keeps() {
        Check.sentence("2 AN IMAGE keeps THE PAGE");
        kept("set(0, 3)", x -> x.set(0, 3));
        Check.sentence("2 AN IMAGE keeps THE DAY");
        kept("set(1, 9)", x -> x.set(1, 9));
        Check.sentence("2 AN IMAGE keeps THE BOOKMARK");
        kept("set(2, 0)", x -> x.set(2, 0));
        kept("set(2, -1)", x -> x.set(2, -1));
        Check.sentence("2 AN IMAGE keeps SKIPPED");
        kept("set(3, 3)", x -> x.set(3, 3));
        Check.sentence("2 AN IMAGE keeps CAME, READ ON of all ENTRIES");
        kept("live()", x -> x.live());
        kept("live() of another day", x -> {
            x.set(0, 0);
            x.set(1, 500);
            x.set(2, 2);
            x.set(3, 0);
            x.live();
        });
        Check.sentence("2 AN IMAGE keeps DEEDS");
        kept("deed(1)", x -> x.deed(1));
        Check.sentence("2 AN IMAGE keeps LONG");
        kept("put(0, 0, 9)", x -> x.put(0, 0, 9));
        kept("put(2, 0, 60)", x -> x.put(2, 0, 60));
        Check.sentence("2 AN IMAGE keeps SENDS ON");
        kept("put(0, 1, 2)", x -> x.put(0, 1, 2));
        kept("put(2, 1, -1)", x -> x.put(2, 1, -1));
        Check.sentence("2 AN IMAGE keeps how many there are");
        kept("word(59, 1, 0)", x -> x.word(59, 1, 0));
        kept("nine more", x -> {
            for (int w = 3; w < 12; w++) {
                x.word(5 * w, w, w - 1);
            }
            x.deed(4095);
        });
        Check.sentence("2 AN IMAGE keeps THE LAW");
        kept("force(0)", x -> x.force(0));
        Check.sentence("2 AN IMAGE keeps all of these together");
        kept("all", x -> {
            x.force(0);
            x.word(45, 60, 0);
            x.put(0, 0, 1);
            x.put(0, 1, 3);
            x.deed(15);
            x.set(0, 1);
            x.set(1, 998);
            x.set(2, 3);
            x.set(3, 10);
            x.live();
        });
    }

    private static void keepsOfEach() {
        Check.sentence("2 AN IMAGE keeps LONG, SENDS ON, READ ON of all ENTRIES");
        OneReader x = Books.entriesUnder("reads 12; holds 1; worth 1;", 12);
        for (int w = 0; w < 12; w++) {
            x.put(w, 1, 11 - w);
        }
        x.live();
        x.image();
        for (int w = 0; w < 12; w++) {
            x.put(w, 0, 2 + w);
            x.put(w, 1, w);
            x.set(2, w);
            x.live();
        }
        x.back();
        for (int w = 0; w < 12; w++) {
            Check.due("told(" + w + ", 2)", x.told(w, 2), 1);
            Check.due("told(" + w + ", 3)", x.told(w, 3), 11 - w);
            Check.due("told(" + w + ", 4)", x.told(w, 4), 1);
            Check.due("told(" + w + ", 6)", x.told(w, 6), w);
            Check.due("chain(" + w + ")", x.chain(w), 1 << w | 1 << (11 - w));
        }
        Check.sentence("2 AN IMAGE keeps DEEDS: what each needs");
        OneReader y = Books.entries(12);
        for (int d = 0; d < 6; d++) {
            y.image();
            y.deed(4095);
            y.back();
            Check.due("deed", y.deed(2048 >> d), d);
            y.image();
            y.back();
            for (int of = 0; of <= d; of++) {
                Check.due("needs(" + of + ")", y.needs(of), 2048 >> of);
            }
        }
    }

    /** What an image does not keep stays as it has become. */
    private static void keptNot(String what, Consumer<OneReader> change) {
        OneReader x = Books.rich();
        x.image();
        change.accept(x);
        OneReader twin = Books.rich();
        change.accept(twin);
        twin.image();
        x.back();
        Check.same(what + " and back()", Everything.of(x), Everything.of(twin));
    }

    private static void keepsNot() {
        Check.sentence("2 AN IMAGE keeps no TEXTS, no TAPE");
        keptNot("feed(2, ..)", x -> x.feed(2, ' ', '+', 0, 0, 0));
        keptNot("a TEXT", x -> {
            Check.due("text()", Check.text(x, ";worth 77;"), 2);
        });
        keptNot("a FAULT", x -> x.text());
        Check.sentence("2 AN IMAGE keeps no SHEETS");
        keptNot("sheet(0, 2, 3)", x -> x.sheet(0, 2, 3));
        keptNot("sheet(1, -1, 0)", x -> x.sheet(1, -1, 0));
        keptNot("cell(2, 3, 9)", x -> x.cell(2, 3, 9));
        keptNot("film(3, 5)", x -> x.film(3, 5));
    }

    private static void back() {
        Check.sentence("promise 34: STATE: there is none");
        Bound.unchanged(OneReader::new, -3, "back");
        Bound.unchanged(() -> Books.entries(2), -3, "back");
        Check.sentence("promise 34: ENTRIES, DEEDS that came since are none: how many ENTRIES there are");
        OneReader x = new OneReader();
        x.image();
        for (int again = 0; again < 2; again++) {
            for (int w = 0; w < 12; w++) {
                Check.due("word(" + (10 * again + w % 10) + ", ..)", x.word(10 * again + w % 10, 1 + again, -1), w);
            }
            Check.due("word(0, 1, -1)", x.word(0, 1, -1), -4);
            for (int d = 0; d < 6; d++) {
                Check.due("deed", x.deed(1 << d), d);
            }
            Check.due("deed(1)", x.deed(1), -4);
            Check.due("told(11, 0)", x.told(11, 0), again);
            Check.due("told(11, 2)", x.told(11, 2), 1 + again);
            Check.due("told(11, 4)", x.told(11, 4), -1);
            x.set(2, 11);
            x.set(3, 2048);
            x.live();
            Check.due("back()", x.back(), 0);
            Check.due("count(0)", x.count(0), 0);
            Check.due("count(1)", x.count(1), 0);
            Check.due("count(3)", x.count(3), 0);
            Check.due("told(0, 0)", x.told(0, 0), -5);
            Check.due("needs(0)", x.needs(0), -5);
            Check.due("set(0, 1)", x.set(0, 1), -7);
            Check.due("deed(1)", x.deed(1), -2);
        }
        Check.same("back(), of an image of nothing", Everything.of(x), Everything.of(imaged(new OneReader())));
        Check.sentence("promise 34: THE IMAGE stays");
        OneReader y = Books.rich();
        for (int again = 0; again < 3; again++) {
            Check.due("back()", y.back(), 3);
            Check.due("count(2)", y.count(2), 9);
            Check.due("count(3)", y.count(3), 7);
            Check.due("count(4)", y.count(4), 2);
            Check.due("count(5)", y.count(5), 1);
            Check.due("now(1)", y.now(1), 0);
            Check.due("told(0, 4)", y.told(0, 4), -1);
            y.live();
        }
    }

    private static OneReader imaged(OneReader x) {
        x.image();
        return x;
    }

    // ---- sheets

    private static void sheets() {
        Check.sentence("2 SHEETS 0 .. 3: missing (as all are at first)");
        for (int s = 0; s < 4; s++) {
            Bound.unchanged(OneReader::new, -11, "judge", s);
            Bound.unchanged(OneReader::new, -11, "cell", s, 0, 0);
            Bound.unchanged(OneReader::new, -11, "copy", s, 0, s, 0, 0);
            Bound.unchanged(OneReader::new, -11, "wordsBy", s, 0, 0, 0);
        }
        Check.sentence("2 SHEETS: each a row of its own");
        OneReader x = new OneReader();
        for (int s = 0; s < 4; s++) {
            x.sheet(s, 2, s + 1);
        }
        for (int s = 0; s < 4; s++) {
            x.cell(s, s, 1);
            for (int other = 0; other < 4; other++) {
                Check.due("judge(" + other + ")", x.judge(other), other <= s ? other : -1);
            }
        }
    }

    private static void sheet() {
        Check.sentence("promise 35: A SHEET. BAD");
        Bound.call(Books::rich, "sheet", V, 0, 5).is(1, 0, 1, 2, 3).unchanged(-2, -1, 4, MIN, MAX);
        Check.sentence("promise 35: of a sort, or missing (sort -1). BAD");
        Bound.call(Books::rich, "sheet", 0, V, 5).is(1, -1, 0, 1, 2).unchanged(-2, -2, 3, MIN, MAX);
        Check.sentence("promise 35: a row of n: 40 at most; BAD: n above 40; -14");
        for (int sort = 0; sort < 3; sort++) {
            Bound.call(Books::rich, "sheet", 0, sort, V).is(1, 0, 1, 39, 40).unchanged(-2, 41, MAX).unchanged(-14, -1, MIN);
            for (int n : new int[] {0, 1, 39, 40}) {
                OneReader x = Books.rich();
                x.sheet(0, sort, n);
                Check.due("cell(0, " + (n - 1) + ", 0)", x.cell(0, n - 1, 0), n == 0 ? -12 : 1);
                Check.due("cell(0, " + n + ", 0)", x.cell(0, n, 0), -12);
                Check.due("wordsBy(0, " + sort + ", 0, 0)", x.wordsBy(0, sort, 0, 0), 0);
            }
        }
        Check.sentence("promise 35: BAD ahead of -14");
        Bound.call(Books::rich, "sheet", V, 0, -1).unchanged(-2, -1, 4).unchanged(-14, 0, 3);
        Bound.call(Books::rich, "sheet", 0, V, -1).unchanged(-2, -2, 3).unchanged(-14, 0, 1, 2);
        Check.sentence("promise 35: all 0");
        OneReader x = new OneReader();
        for (int sort = 0; sort < 3; sort++) {
            for (int i = 0; i < 40; i++) {
                x.cell(0, i, 1);
            }
            x.sheet(0, sort, 40);
            Check.due("judge(0)", x.judge(0), -1);
        }
        x.cell(0, 39, 1);
        x.sheet(0, 2, 1);
        x.sheet(0, 2, 40);
        Check.due("judge(0), shorter in between", x.judge(0), -1);
        Check.sentence("promise 35: missing (sort -1: n does not matter)");
        for (int n : new int[] {MIN, -1, 0, 1, 40, 41, MAX}) {
            OneReader y = Books.rich();
            Check.due("sheet(0, -1, " + n + ")", y.sheet(0, -1, n), 1);
            Check.due("judge(0)", y.judge(0), -11);
            Check.due("sheet(3, -1, " + n + "), missing as it was", y.sheet(3, -1, n), 1);
            Check.due("judge(3)", y.judge(3), -11);
        }
        Bound.call(Books::rich, "sheet", V, -1, 0).is(1, 0, 3).unchanged(-2, -1, 4);
        Bound.unchanged(Books::rich, 1, "sheet", 3, -1, -5);
    }

    private static void cell() {
        Check.sentence("promise 36: A SHEET. BAD; -11");
        Bound.call(Books::rich, "cell", V, 0, 5).is(1, 0, 1, 2).unchanged(-11, 3).unchanged(-2, -1, 4, MIN, MAX);
        Check.sentence("promise 36: Number i. -12");
        Bound.call(Books::rich, "cell", 2, V, 5).is(1, 0, 3).unchanged(-12, -1, 4, 40, MIN, MAX);
        Bound.call(Books::rich, "cell", 0, V, 5).is(1, 0, 5).unchanged(-12, -1, 6);
        Bound.call(Books::full, "cell", 3, V, 5).is(1, 0, 39).unchanged(-12, -1, 40);
        OneReader none = new OneReader();
        none.sheet(0, 0, 0);
        Check.due("cell(0, 0, 0) of no number", none.cell(0, 0, 0), -12);
        Check.sentence("promise 36: BAD ahead of -11, that ahead of -12");
        Bound.call(Books::rich, "cell", V, -1, 5).unchanged(-2, -1, 4).unchanged(-11, 3).unchanged(-12, 0, 2);
        Bound.call(Books::rich, "cell", V, 40, 5).unchanged(-2, -1, 4).unchanged(-11, 3).unchanged(-12, 0, 2);
        Check.sentence("promise 36: becomes v, and no other");
        for (int i = 0; i < 4; i++) {
            OneReader x = new OneReader();
            x.sheet(0, 2, 4);
            x.cell(0, i, 9);
            Check.due("judge(0)", x.judge(0), i);
            x.cell(0, i, 0);
            Check.due("judge(0)", x.judge(0), -1);
        }
    }

    /** Whether number v of a SHEET of a sort tells that the first so many ENTRIES hold. */
    private static void tells(int sort, int v, int many, boolean isSo) {
        OneReader x = new OneReader();
        for (int w = 0; w < many; w++) {
            x.word(45, 1, -1);
        }
        Books.tell(x, 0, sort, v);
        Check.due("judge(0) of " + v + " in sort " + sort + ", " + many + " hold", x.judge(0), isSo ? -1 : 0);
    }

    private static void lowestBits() {
        Check.sentence("promise 36: (of bytes its lowest 8 bits)");
        for (int more : new int[] {0, 256, -256, 512, 65536, MIN}) {
            tells(0, more, 0, true);
            tells(0, 1 + more, 0, false);
            tells(0, 128 + more, 0, false);
            tells(0, 127 + more, 7, true);
            tells(0, 126 + more, 7, false);
        }
        Check.sentence("promise 36: (of shorts its lowest 16 bits)");
        for (int more : new int[] {0, 65536, -65536, 131072, MIN}) {
            tells(1, more, 0, true);
            tells(1, 256 + more, 0, false);
            tells(1, 32768 + more, 0, false);
            tells(1, 4095 + more, 12, true);
            tells(1, 4094 + more, 12, false);
        }
        Check.sentence("promise 36: (of ints all)");
        for (int more : new int[] {0, 256, 65536, -65536, MIN}) {
            tells(2, more, 0, more == 0);
            tells(2, 4095 + more, 12, more == 0);
        }
    }

    // ---- copy

    private static void copyRefusals() {
        Check.sentence("promise 37: BAD: SHEETS; -11; -13: unlike sorts");
        Bound.call(Books::rich, "copy", V, 0, 2, 0, 1).unchanged(1, 2).unchanged(-13, 0, 1).unchanged(-11, 3)
            .unchanged(-2, -1, 4, MIN, MAX);
        Bound.call(Books::rich, "copy", 2, 0, V, 0, 1).unchanged(1, 2).unchanged(-13, 0, 1).unchanged(-11, 3)
            .unchanged(-2, -1, 4, MIN, MAX);
        Check.sentence("promise 37: of several the first one told");
        Bound.call(Books::rich, "copy", V, 9, 3, 9, 9).unchanged(-11, 0, 1, 2, 3).unchanged(-2, -1, 4);
        Bound.call(Books::rich, "copy", 3, 9, V, 9, 9).unchanged(-11, 0, 1, 2, 3).unchanged(-2, -1, 4);
        Bound.call(Books::rich, "copy", V, -1, 0, -1, -1).unchanged(-13, 1, 2).unchanged(-12, 0);
        Bound.call(Books::rich, "copy", 0, 0, V, 0, -1).unchanged(-13, 1, 2).unchanged(-12, 0);
        Bound.call(Books::rich, "copy", 3, 0, V, 0, 0).unchanged(-11, 0, 1, 2, 3);
        Bound.call(Books::rich, "copy", 0, 0, V, 0, 0).unchanged(0, 0).unchanged(-13, 1, 2);
    }

    private static OneReader sixAndThree() {
        OneReader x = new OneReader();
        Books.tell(x, 0, 2, 1, 2, 3, 4, 5, 6);
        Books.tell(x, 1, 2, 7, 8, 9);
        return x;
    }

    /** The numbers of a SHEET of ints, three by three, by the ENTRIES that they make: all are such as word() takes. */
    private static String row(OneReader x, int s, int size) {
        StringBuilder row = new StringBuilder();
        int n = size / 3;
        int from = x.count(0);
        x.wordsBy(s, 2, 0, n);
        for (int w = from; w < from + n; w++) {
            row.append(10 * x.told(w, 0) + x.told(w, 1)).append(' ');
            row.append(x.told(w, 2)).append(' ');
            row.append(x.told(w, 3)).append(' ');
        }
        return row.toString();
    }

    private static void copied(int s, int i, int other, int j, int n, String six, String three) {
        OneReader x = sixAndThree();
        String call = Call.told("copy", s, i, other, j, n);
        Check.due(call, x.copy(s, i, other, j, n), n);
        Check.same(call + ", sheet 0", row(x, 0, 6), six);
        Check.same(call + ", sheet 1", row(x, 1, 3), three);
    }

    private static void copiedNot(int s, int i, int other, int j, int n) {
        OneReader x = sixAndThree();
        String call = Call.told("copy", s, i, other, j, n);
        Check.due(call, x.copy(s, i, other, j, n), -12);
        Check.same(call + ", sheet 0", row(x, 0, 6), "1 2 3 4 5 6 ");
        Check.same(call + ", sheet 1", row(x, 1, 3), "7 8 9 ");
    }

    private static void copyPlaces() {
        String six = "1 2 3 4 5 6 ";
        String three = "7 8 9 ";
        Check.sentence("promise 37: n numbers of a SHEET, from i on, come to another one's place j: n");
        copied(0, 0, 1, 0, 3, six, "1 2 3 ");
        copied(0, 3, 1, 0, 3, six, "4 5 6 ");
        copied(0, 5, 1, 2, 1, six, "7 8 6 ");
        copied(0, 1, 1, 1, 2, six, "7 2 3 ");
        copied(1, 0, 0, 0, 3, "7 8 9 4 5 6 ", three);
        copied(1, 0, 0, 3, 3, "1 2 3 7 8 9 ", three);
        copied(1, 2, 0, 5, 1, "1 2 3 4 5 9 ", three);
        Check.sentence("promise 37: -12: i");
        copiedNot(0, -1, 1, 0, 1);
        copied(0, 0, 1, 0, 1, six, "1 8 9 ");
        copied(0, 5, 1, 0, 1, six, "6 8 9 ");
        copiedNot(0, 6, 1, 0, 1);
        copied(0, 4, 1, 0, 2, six, "5 6 9 ");
        copiedNot(0, 5, 1, 0, 2);
        Check.sentence("promise 37: -12: j");
        copiedNot(0, 0, 1, -1, 1);
        copied(0, 0, 1, 2, 1, six, "7 8 1 ");
        copiedNot(0, 0, 1, 3, 1);
        copied(0, 0, 1, 1, 2, six, "7 1 2 ");
        copiedNot(0, 0, 1, 2, 2);
        Check.sentence("promise 37: -12: n");
        copied(0, 0, 1, 0, 2, six, "1 2 9 ");
        copiedNot(0, 0, 1, 0, 4);
        copiedNot(1, 0, 0, 0, 4);
        copied(0, 0, 0, 0, 6, six, three);
        copiedNot(0, 0, 0, 0, 7);
        Check.sentence("promise 37: n of 0: at the place behind the last, too");
        copied(0, 0, 1, 0, 0, six, three);
        copied(0, 6, 1, 3, 0, six, three);
        copiedNot(0, 7, 1, 3, 0);
        copiedNot(0, 6, 1, 4, 0);
        copiedNot(0, -1, 1, 0, 0);
        copiedNot(0, 0, 1, -1, 0);
        Check.sentence("promise 37: -12 (n below 0, too)");
        copiedNot(0, 0, 1, 0, -1);
        copiedNot(0, 3, 1, 1, -1);
        copiedNot(0, 0, 0, 0, MIN);
        Check.sentence("promise 37: -12, where places would wrap");
        copiedNot(0, MAX, 1, 0, 1);
        copiedNot(0, 0, 1, MAX, 1);
        copiedNot(0, 0, 1, 0, MAX);
        copiedNot(0, MAX, 1, MAX, MAX);
        copiedNot(0, 2, 1, 2, MAX);
        copiedNot(0, MIN, 1, 0, 1);
        copiedNot(0, 0, 1, MIN, 1);
        copiedNot(0, MIN, 1, MIN, MIN);
        copiedNot(0, MAX, 1, MAX, MIN);
    }

    private static void asTheyWere() {
        Check.sentence("promise 37: to its own place j (as they were)");
        copied(0, 0, 0, 1, 5, "1 1 2 3 4 5 ", "7 8 9 ");
        copied(0, 1, 0, 0, 5, "2 3 4 5 6 6 ", "7 8 9 ");
        copied(0, 0, 0, 3, 3, "1 2 3 1 2 3 ", "7 8 9 ");
        copied(0, 3, 0, 0, 3, "4 5 6 4 5 6 ", "7 8 9 ");
        copied(0, 2, 0, 2, 4, "1 2 3 4 5 6 ", "7 8 9 ");
        copiedNot(0, 0, 0, 1, 6);
        copiedNot(0, 1, 0, 0, 6);
        for (int sort = 0; sort < 2; sort++) {
            OneReader x = new OneReader();
            Books.tell(x, 0, sort, 0, 1, 0, 0);
            Books.tell(x, 1, sort, 0, 0);
            Check.due("copy(0, 1, 1, 1, 1) of sort " + sort, x.copy(0, 1, 1, 1, 1), 1);
            Check.due("judge(1)", x.judge(1), 1);
            Check.due("judge(0)", x.judge(0), 1);
        }
    }

    // ---- wordsBy

    private static void wordsByRefusals() {
        Check.sentence("promise 38: BAD: SHEET, sort, n (0 .. 12)");
        Bound.call(Books::rich, "wordsBy", V, 2, 0, 0).unchanged(0, 2).unchanged(-13, 0, 1).unchanged(-11, 3)
            .unchanged(-2, -1, 4, MIN, MAX);
        Bound.call(Books::rich, "wordsBy", 2, V, 0, 0).unchanged(0, 2).unchanged(-13, 0, 1).unchanged(-2, -1, 3, MIN, MAX);
        Bound.call(Books::full, "wordsBy", 0, 1, 0, V).unchanged(0, 0, 1, 11, 12).unchanged(-2, -1, 13, MIN, MAX);
        Check.sentence("promise 38: of several the first one told: BAD; -11; -13; -12");
        Bound.call(Books::rich, "wordsBy", V, 3, -1, 1).unchanged(-2, -1, 0, 2, 3, 4);
        Bound.call(Books::rich, "wordsBy", V, 0, -1, 13).unchanged(-2, -1, 0, 2, 3, 4);
        Bound.call(Books::rich, "wordsBy", 3, V, -1, 1).unchanged(-11, 0, 1, 2).unchanged(-2, -1, 3);
        Bound.call(Books::rich, "wordsBy", 0, V, -1, 1).unchanged(-12, 0).unchanged(-13, 1, 2).unchanged(-2, -1, 3);
        Bound.call(Books::rich, "wordsBy", 0, V, -1, 13).unchanged(-2, -1, 0, 1, 2, 3);
        Bound.call(Books::rich, "wordsBy", 3, V, 0, -1).unchanged(-2, -1, 0, 1, 2, 3);
        Bound.call(Books::rich, "wordsBy", 3, V, 0, 0).unchanged(-11, 0, 1, 2).unchanged(-2, -1, 3);
    }

    /** A sheet of ints, each of them 1 more than the one ahead; what came of it, and the ENTRIES that there are then. */
    private static void wordsBy(int size, int from, int n, int due, int came) {
        OneReader x = new OneReader();
        x.sheet(0, 2, size);
        for (int i = 0; i < size; i++) {
            x.cell(0, i, 1 + i % 11);
        }
        String call = Call.told("wordsBy", 0, 2, from, n) + " of " + size;
        Check.due(call, x.wordsBy(0, 2, from, n), due);
        Check.due("count(0) behind " + call, x.count(0), came);
        for (int w = 0; w < came; w++) {
            int at = from + 3 * w;
            Check.due("told(" + w + ", 0) behind " + call, x.told(w, 0), (1 + at % 11) / 10);
            Check.due("told(" + w + ", 1) behind " + call, x.told(w, 1), (1 + at % 11) % 10);
            Check.due("told(" + w + ", 2) behind " + call, x.told(w, 2), 1 + (at + 1) % 11);
            Check.due("told(" + w + ", 3) behind " + call, x.told(w, 3), 1 + (at + 2) % 11);
        }
    }

    private static void wordsByPlaces() {
        Check.sentence("promise 38: from a place on, three by three, n of them: how many came");
        wordsBy(9, 0, 0, 0, 0);
        wordsBy(9, 0, 1, 1, 1);
        wordsBy(9, 0, 2, 2, 2);
        wordsBy(9, 0, 3, 3, 3);
        wordsBy(9, 5, 1, 1, 1);
        wordsBy(9, 6, 1, 1, 1);
        wordsBy(10, 1, 3, 3, 3);
        wordsBy(36, 0, 12, 12, 12);
        wordsBy(40, 4, 12, 12, 12);
        wordsBy(40, 37, 1, 1, 1);
        wordsBy(3, 0, 1, 1, 1);
        Check.sentence("promise 38: -12: what stood ahead came");
        wordsBy(9, 0, 4, -12, 3);
        wordsBy(9, 0, 12, -12, 3);
        wordsBy(9, 1, 3, -12, 2);
        wordsBy(9, 2, 3, -12, 2);
        wordsBy(9, 3, 3, -12, 2);
        wordsBy(9, 7, 1, -12, 0);
        wordsBy(9, 8, 1, -12, 0);
        wordsBy(9, 9, 1, -12, 0);
        wordsBy(9, 10, 1, -12, 0);
        wordsBy(40, 5, 12, -12, 11);
        wordsBy(40, 38, 1, -12, 0);
        wordsBy(2, 0, 1, -12, 0);
        wordsBy(0, 0, 1, -12, 0);
        Check.sentence("promise 38: -12: a place below 0, or where places would wrap");
        for (int from : new int[] {-1, -2, -3, -36, MIN, MIN + 1, MAX, MAX - 1, MAX - 2, MAX - 35}) {
            wordsBy(9, from, 1, -12, 0);
            wordsBy(9, from, 12, -12, 0);
        }
        Check.sentence("promise 38: n of 0: at no place nothing stands");
        for (int from : new int[] {0, 9, 10, -1, MIN, MAX}) {
            wordsBy(9, from, 0, 0, 0);
        }
    }

    private static void leftOut() {
        Check.sentence("promise 38: (others are left out), so such as word() calls BAD");
        int[][] triples = {{-1, 1, 0}, {60, 1, 0}, {0, 0, 0}, {0, 61, 0}, {0, 1, -2}, {0, 1, 12}, {MIN, 1, 0}, {0, MAX, 0},
            {0, 1, MAX}};
        for (int[] t : triples) {
            OneReader x = new OneReader();
            Books.tell(x, 0, 2, 59, 60, 11, t[0], t[1], t[2], 0, 1, -1);
            Check.due("wordsBy(0, 2, 0, 3), the second " + t[0] + ", " + t[1] + ", " + t[2], x.wordsBy(0, 2, 0, 3), 2);
            Check.due("count(0)", x.count(0), 2);
            Check.due("told(0, 2)", x.told(0, 2), 60);
            Check.due("told(1, 2)", x.told(1, 2), 1);
            Check.due("told(1, 3)", x.told(1, 3), -1);
            Check.due("wordsBy(0, 2, 3, 1), it alone", x.wordsBy(0, 2, 3, 1), 0);
        }
        Check.sentence("promise 38: (others are left out), so such as word() calls FULL");
        for (int have = 9; have <= 12; have++) {
            OneReader x = Books.entries(have);
            Books.tell(x, 0, 2, 10, 2, 3, 14, 5, 6, 17, 8, 9);
            Check.due("wordsBy(0, 2, 0, 3) behind " + have, x.wordsBy(0, 2, 0, 3), 12 - have);
            Check.due("count(0)", x.count(0), 12);
            Check.due("wordsBy(0, 2, 0, 4), full", x.wordsBy(0, 2, 0, 4), -12);
        }
    }

    private static void wordsBySorts() {
        Check.sentence("promise 38: by a SHEET of a sort: its numbers, -1 is none in each");
        for (int sort = 0; sort < 3; sort++) {
            for (int none : new int[] {-1, 255, 65535}) {
                OneReader x = new OneReader();
                Books.tell(x, 3, sort, 59, 60, none);
                boolean takes = none == -1 || sort == 0 || none == 65535 && sort == 1;
                Check.due("wordsBy(3, " + sort + ", 0, 1) of " + none, x.wordsBy(3, sort, 0, 1), takes ? 1 : 0);
                Check.due("told(0, 3)", x.told(0, 3), takes ? -1 : -5);
            }
        }
    }

    // ---- taken

    private static void taken() {
        Check.sentence("promise 39: for 0 .. 5 an ENTRY of that KIND, 6 a DEED. BAD: kind");
        Bound.call(Books::rich, "taken", 0, V).unchanged(0, 0).unchanged(-13, 1, 2, 3, 4, 5, 6).unchanged(-2, -1, 7, MIN, MAX);
        Bound.call(Books::rich, "taken", 12, V).unchanged(2, 6).unchanged(-13, 0, 5).unchanged(-2, -1, 7);
        Check.sentence("promise 39: 0 .. 11 ENTRIES, 12 .. 17 DEEDS. -12: i; -11: nothing lies there");
        Bound.call(Books::rich, "taken", V, 0).unchanged(0, 0).unchanged(2, 2).unchanged(-11, 3, 11).unchanged(-13, 12, 13)
            .unchanged(-11, 14, 17).unchanged(-12, -1, 18, MIN, MAX);
        Bound.call(Books::rich, "taken", V, 6).unchanged(-13, 0, 2).unchanged(-11, 3, 11).unchanged(2, 12).unchanged(3, 13)
            .unchanged(-11, 14, 17).unchanged(-12, -1, 18);
        Bound.call(Books::full, "taken", V, 0).unchanged(0, 0).unchanged(11, 11).unchanged(-13, 12, 17).unchanged(-12, -1, 18);
        Bound.call(Books::full, "taken", V, 6).unchanged(-13, 0, 11).unchanged(2049, 12).unchanged(96, 17)
            .unchanged(-12, -1, 18);
        Bound.call(OneReader::new, "taken", V, 0).unchanged(-11, 0, 11, 12, 17).unchanged(-12, -1, 18);
        Check.sentence("promise 39: of several the first one told: BAD; -12; -11; -13");
        Bound.call(Books::rich, "taken", V, 7).unchanged(-2, -1, 0, 3, 12, 18);
        Bound.call(Books::rich, "taken", V, -1).unchanged(-2, -1, 0, 3, 12, 18);
        Bound.call(Books::rich, "taken", 3, V).unchanged(-11, 0, 6).unchanged(-2, -1, 7);
        Check.sentence("promise 39: (also of one that is one): its number");
        String[] isOne = {"100000", "110000", "101000", "110100", "101010", "100001"};
        for (int kind = 0; kind < 6; kind++) {
            OneReader x = Books.entries(11);
            x.word(10 * kind + 9, 1, -1);
            for (int as = 0; as < 6; as++) {
                Check.due("taken(11, " + as + ") of KIND " + kind, x.taken(11, as), isOne[kind].charAt(as) == '1' ? 11 : -13);
            }
            Check.due("taken(11, 6)", x.taken(11, 6), -13);
        }
    }
}
