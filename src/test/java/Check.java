/** Counts and prints the calls whose answer is not the one that is due. */
final class Check {
    private static int promise;
    private static int asked;
    private static int wrong;

    private Check() {
    }

    static void promise(int number) {
        promise = number;
    }

    static void due(String call, long got, long want) {
        asked++;
        if (got != want) {
            wrong++;
            System.out.println("promise " + promise + ": " + call + " answered " + got + ", due is " + want);
        }
    }

    static void end() {
        System.out.println(asked + " answers looked at, " + wrong + " not as due");
        if (wrong != 0) {
            System.exit(1);
        }
    }

    /** Feeds a text byte by byte, as many at once as there is room for in a call. */
    static void feed(OneReader x, String text) {
        for (int i = 0; i < text.length(); i += 5) {
            int[] five = new int[5];
            int n = Math.min(5, text.length() - i);
            for (int k = 0; k < n; k++) {
                five[k] = text.charAt(i + k);
            }
            x.feed(n, five[0], five[1], five[2], five[3], five[4]);
        }
    }

    static int text(OneReader x, String text) {
        feed(x, text);
        return x.text();
    }

    /** A new object whose LAW is this text. */
    static OneReader under(String text) {
        OneReader x = new OneReader();
        int t = text(x, text);
        if (t != 1 || x.force(t) != 0) {
            wrong++;
            System.out.println("the test's own text is no TEXT: " + text + " (" + t + ")");
        }
        return x;
    }
}
