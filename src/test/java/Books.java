/** Objects that the tests of boundaries begin with; each call makes one anew. */
final class Books {
    private Books() {
    }

    /** So many ENTRIES, LONG 1, that send on to none. */
    static OneReader entries(int many) {
        return addEntries(new OneReader(), many);
    }

    static OneReader entriesUnder(String text, int many) {
        return addEntries(Check.under(text), many);
    }

    private static OneReader addEntries(OneReader x, int many) {
        for (int w = 0; w < many; w++) {
            x.word(0, 1, -1);
        }
        return x;
    }

    /** ENTRIES of so many pages each, that send on to none. */
    static OneReader pagesUnder(String text, int... pages) {
        OneReader x = Check.under(text);
        for (int many : pages) {
            x.word(0, many, -1);
        }
        return x;
    }

    /**
     * Three ENTRIES of 4, 3 and 8 pages, 0 sends on to 1, 2 to 0; two DEEDS, that need 1, and 0 and 1; DAY 2, PAGE 6,
     * 0 and 1 CAME, a BOOKMARK at 1, 2 SKIPPED; 15 bytes on the tape; an image, other in all. SHEETS 0 .. 2 tell true
     * which ENTRIES will hold: bytes and shorts 2, 0, 0, 0, 0, 2, ints 2, 0, 0, 0; SHEET 3 is missing.
     */
    static OneReader rich() {
        OneReader x = Check.under("reads 3; holds 1; worth 5+words;");
        x.word(0, 4, 1);
        x.word(0, 3, -1);
        x.word(0, 8, 0);
        x.deed(2);
        x.deed(3);
        where(x, 9, 7, 2, 1);
        x.image();
        where(x, 0, 0, -1, 0);
        x.live();
        x.live();
        x.set(2, 1);
        x.set(3, 4);
        Check.feed(x, "reads 7;holds 1");
        x.film(1, 6);
        tell(x, 0, 0, 2, 0, 0, 0, 0, 2);
        tell(x, 2, 2, 2, 0, 0, 0);
        return x;
    }

    private static void where(OneReader x, int page, int day, int bookmark, int skips) {
        x.set(0, page);
        x.set(1, day);
        x.set(2, bookmark);
        x.set(3, skips);
    }

    /** As many ENTRIES, DEEDS, TEXTS, bytes and numbers of each SHEET as there may be. */
    static OneReader full() {
        OneReader x = new OneReader();
        for (int w = 0; w < 12; w++) {
            x.word(w % 6 * 10 + w % 10, 1 + 5 * w, (w + 1) % 12);
        }
        for (int d = 0; d < 6; d++) {
            x.deed(1 << d | 1 << (11 - d));
        }
        for (int t = 1; t < 6; t++) {
            Check.text(x, "reads 1;holds 1;worth 1;");
        }
        for (int s = 0; s < 4; s++) {
            x.film(s, 40);
        }
        Check.feed(x, " ".repeat(160));
        return x;
    }

    /** A DEED that can be DONE each DAY, worth 6. */
    static OneReader daily() {
        OneReader x = new OneReader();
        x.word(45, 1, -1);
        x.deed(1);
        return x;
    }

    /** An ENTRY that HOLDS on DAY 60 alone, and a DEED that needs it, worth 7. */
    static OneReader sixtieth() {
        OneReader x = entriesUnder("reads 1; holds day = 60; worth 7;", 1);
        x.deed(1);
        return x;
    }

    /** ENTRIES of a page each; a DEED for each of the first six, worth MORE of it. */
    static OneReader worths(String reads, int... mores) {
        OneReader x = Check.under("reads " + reads + "; holds 1; worth more;");
        for (int w = 0; w < mores.length; w++) {
            x.word(mores[w], 1, -1);
            x.deed(1 << w);
        }
        return x;
    }

    static void tell(OneReader x, int s, int sort, int... row) {
        x.sheet(s, sort, row.length);
        for (int i = 0; i < row.length; i++) {
            x.cell(s, i, row[i]);
        }
    }
}
