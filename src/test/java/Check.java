/** Counts and prints the calls whose answer is not the one that is due. */
final class Check {
    private static String heading = "";
    private static int sentences;
    private static int asked;
    private static int wrong;

    private Check() {
    }

    static void promise(int number) {
        heading = "promise " + number;
    }

    /** A sentence of the document, told where it stands; what is looked at next is what it asks. */
    static void sentence(String told) {
        heading = told;
        sentences++;
    }

    static void due(String call, long got, long want) {
        asked++;
        if (got != want) {
            wrong++;
            System.out.println(heading + ": " + call + " answered " + got + ", due is " + want);
        }
    }

    /** Of two objects that must be alike, line by line, the first line that differs. */
    static void same(String call, String got, String want) {
        asked++;
        if (got.equals(want)) {
            return;
        }
        wrong++;
        String[] is = got.split("\n");
        String[] was = want.split("\n");
        int i = 0;
        while (i < is.length && i < was.length && is[i].equals(was[i])) {
            i++;
        }
        System.out.println(heading + ": behind " + call + ": " + (i < is.length ? is[i] : "no more")
            + ", ahead of it: " + (i < was.length ? was[i] : "no more"));
    }

    static void end() {
        if (sentences > 0) {
            System.out.println(sentences + " sentences");
        }
        System.out.println(asked + " answers looked at, " + wrong + " not as due");
        if (wrong != 0) {
            System.exit(1);
        }
    }

    /** Feeds a text byte by byte, as many at once as there is room for in a call. */
    static void feed(OneReader x, String text) {
        for (int i = 0; i < text.length(); i += 5) {
            int[] five = new int[5];
            int n = Math.min(5, text.length() - i);
            for (int k = 0; k < n; k++) {
                five[k] = text.charAt(i + k);
            }
            x.feed(n, five[0], five[1], five[2], five[3], five[4]);
        }
    }

    static int text(OneReader x, String text) {
        feed(x, text);
        return x.text();
    }

    /** A new object whose LAW is this text. */
    static OneReader under(String text) {
        OneReader x = new OneReader();
        int t = text(x, text);
        if (t != 1 || x.force(t) != 0) {
            wrong++;
            System.out.println("the test's own text is no TEXT: " + text + " (" + t + ")");
        }
        return x;
    }
}
