/**
 * All that an object answers, as one text. It takes some 350 calls of the 512 and leaves the object changed,
 * so an object is asked once: its twin, made by the same calls, tells how it was ahead of a call.
 */
final class Everything {
    private Everything() {
    }

    static String of(OneReader x) {
        StringBuilder all = new StringBuilder();
        state(x, all);
        for (int s = 0; s < 4; s++) {
            sheet(x, s, all);
        }
        tape(x, all);
        all.append("\nback()=").append(x.back());
        state(x, all);
        return all.toString();
    }

    private static void put(StringBuilder all, OneReader x, String name, int... args) {
        all.append('\n').append(Call.told(name, args)).append('=').append(Call.on(x, name, args));
    }

    private static void state(OneReader x, StringBuilder all) {
        for (int what = 0; what < 9; what++) {
            put(all, x, "count", what);
        }
        for (int w = 0; w < x.count(0); w++) {
            for (int what = 0; what < 8; what++) {
                put(all, x, "told", w, what);
            }
            put(all, x, "chain", w);
        }
        for (int d = 0; d < x.count(1); d++) {
            put(all, x, "needs", d);
        }
        for (int what = 0; what < 3; what++) {
            put(all, x, "now", what);
        }
        put(all, x, "done", 0);
        put(all, x, "done", 1);
        for (int what = 0; what < 5; what++) {
            put(all, x, "run", 4, what);
        }
        put(all, x, "run", 60, 0);
    }

    private static void sheet(OneReader x, int s, StringBuilder all) {
        for (int sort = 0; sort < 3; sort++) {
            put(all, x, "wordsBy", s, sort, 0, 0);
        }
        // as many numbers as there are lie ahead of the last place to which none of them can be copied
        int size = 0;
        for (int half = 32; half > 0; half /= 2) {
            size += x.copy(s, size + half, s, size + half, 0) == 0 ? half : 0;
        }
        all.append("\nsize of sheet ").append(s).append('=').append(size);
        put(all, x, "judge", s);
        put(all, x, "begins", s);
        put(all, x, "skipped", s);
        put(all, x, "laws", s);
    }

    /** What lies on the tape shows only by the TEXT that it becomes. */
    private static void tape(OneReader x, StringBuilder all) {
        Check.feed(x, ";worth 3;");
        int t = x.text();
        all.append("\ntext()=").append(t);
        if (t >= 0) {
            x.force(t);
            for (int part = 0; part < 3; part++) {
                put(all, x, "asks", part, 0, 1, 1);
            }
        }
    }
}
