/** Promises 18 to 21: what is best. The days of three() are told in DaysTest. */
public final class BestTest {
    private static final int MIN = Integer.MIN_VALUE, MAX = Integer.MAX_VALUE;

    public static void main(String[] args) {
        begin();
        lobby();
        soup();
        soupToo();
        road();
        Check.end();
    }

    /** The DEED needs entry 1, is worth 6, and can be done on days 2 and 3. */
    private static OneReader three() {
        OneReader x = DaysTest.three();
        x.deed(2);
        return x;
    }

    private static void both(String name, int n, int which, int worth, OneReader x) {
        String call = name + "(" + n + ", ";
        switch (name) {
            case "begin":
                Check.due(call + "0)", x.begin(n, 0), which);
                Check.due(call + "1)", x.begin(n, 1), worth);
                break;
            case "lobby":
                Check.due(call + "0)", x.lobby(n, 0), which);
                Check.due(call + "1)", x.lobby(n, 1), worth);
                break;
            default:
                Check.due(call + "0)", x.soup(n, 0), which);
                Check.due(call + "1)", x.soup(n, 1), worth);
                break;
        }
    }

    private static void bad(OneReader x) {
        for (int[] c : new int[][] {{-1, 0}, {61, 0}, {0, -1}, {0, 2}, {MIN, MIN}, {MAX, MAX}}) {
            String args = "(" + c[0] + ", " + c[1] + ")";
            Check.promise(18);
            Check.due("begin" + args, x.begin(c[0], c[1]), -2);
            Check.promise(19);
            Check.due("lobby" + args, x.lobby(c[0], c[1]), -2);
            Check.promise(20);
            Check.due("soup" + args, x.soup(c[0], c[1]), -2);
        }
    }

    private static void begin() {
        bad(new OneReader());
        bad(three());
        Check.promise(18);
        both("begin", 5, -1, 0, new OneReader());
        OneReader x = three();
        both("begin", 0, 0, 0, x);
        both("begin", 1, 1, 6, x);
        both("begin", 2, 0, 6, x);
        both("begin", 3, 0, 12, x);
        both("begin", 60, 0, 144, x);
        x.set(2, 2);
        x.set(0, 9);
        both("begin", 1, 1, 6, x);
        both("begin", 3, 0, 12, x);
        Check.due("count(4)", x.count(4), 2);
        Check.due("count(2)", x.count(2), 9);
        OneReader none = DaysTest.three();
        both("begin", 9, 0, 0, none);
    }

    private static void lobby() {
        Check.promise(19);
        both("lobby", 5, -1, 0, new OneReader());
        OneReader x = three();
        both("lobby", 0, -1, 0, x);
        both("lobby", 1, 1, 6, x);
        both("lobby", 3, -1, 12, x);
        x.set(0, 7);
        both("lobby", 2, 0, 6, x);
        both("lobby", 3, 0, 12, x);
        x.set(2, 1);
        both("lobby", 1, -1, 6, x);
        both("lobby", 3, 0, 12, x);
        x.set(2, 2);
        both("lobby", 1, 1, 6, x);
        Check.due("count(4)", x.count(4), 2);
    }

    private static void soup() {
        Check.promise(20);
        both("soup", 5, -1, 0, new OneReader());
        OneReader x = three();
        both("soup", 1, -1, 0, x);
        both("soup", 3, 1, 0, x);
        x.deed(1);
        // the second one needs 0 and so 1: 6 more on day 2; without 1 none, without 0 the first one alone
        Check.due("run(3, 0)", x.run(3, 0), 18);
        both("soup", 3, 1, 0, x);
        x.set(3, 2);
        both("soup", 3, -1, 0, x);
        x.set(3, 0);
        x.set(2, 1);
        Check.due("count(5)", x.count(5), 0);
        both("soup", 1, 1, 0, x);
    }

    private static void soupToo() {
        Check.promise(20);
        OneReader x = Check.under("reads 4; holds 1; worth 10*entry+1;");
        for (int w = 0; w < 4; w++) {
            x.word(20, 1, -1);
            x.deed(1 << w);
        }
        both("soup", 1, 3, 33, x);
        both("soup", 2, 3, 66, x);
        x.set(3, 8);
        both("soup", 1, 2, 12, x);
        x.set(3, 7);
        both("soup", 1, 3, 0, x);
        OneReader y = Check.under("reads 4; holds 1; worth 5;");
        for (int w = 0; w < 4; w++) {
            y.word(20, 1, -1);
            y.deed(1 << w);
        }
        both("soup", 1, 0, 15, y);
        y.set(3, 1);
        both("soup", 1, 1, 10, y);
    }

    private static void road() {
        Check.promise(21);
        OneReader x = DaysTest.three();
        x.deed(1);
        // 0 comes on days 1 and 2, what it needs on day 2
        Check.due("run(1, 0)", x.run(1, 0), 0);
        Check.due("run(2, 0)", x.run(2, 0), 6);
        int[][] calls = {{0, 0, 0, -1}, {0, 0, 1, 0}, {0, 1, 0, -2}, {0, 1, 1, 6}, {0, 2, 0, -2}, {0, 2, 1, 12},
            {1, 2, 0, -1}, {1, 2, 1, 6}, {2, 2, 0, -1}, {2, 2, 1, 6},
            {-1, 2, 0, -5}, {3, 2, 0, -5}, {3, 61, 0, -5}, {MIN, MIN, MIN, -5}, {0, -1, 0, -7}, {0, 61, 0, -7},
            {0, 2, -1, -7}, {0, 2, 2, -7}, {0, MAX, MAX, -7}};
        for (int[] c : calls) {
            Check.due("road(" + c[0] + ", " + c[1] + ", " + c[2] + ")", x.road(c[0], c[1], c[2]), c[3]);
        }
        Check.due("told(0, 3)", x.told(0, 3), 1);
        x.put(0, 1, -1);
        Check.due("road(0, 2, 0), as good as it is", x.road(0, 2, 0), -1);
        Check.due("road(0, 2, 1)", x.road(0, 2, 1), 12);
        // what 0 needs is further down the chain
        x.put(0, 1, 1);
        x.put(1, 1, 2);
        Check.due("road(0, 2, 0)", x.road(0, 2, 0), -2);
        Check.due("road(0, 2, 1)", x.road(0, 2, 1), 12);
        Check.due("road(1, 2, 0)", x.road(1, 2, 0), -2);
        Check.due("road(1, 2, 1)", x.road(1, 2, 1), 6);
    }
}
