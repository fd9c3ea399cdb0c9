import java.lang.reflect.Method;
import java.util.ArrayList;
import java.util.List;

/** Thousands of drawn runs of calls: OneReader and the Model must answer alike. */
public final class ModelTest {
    private static final int RUNS = Integer.getInteger("runs", 1500);
    private static final int CALLS = 512;
    private static final int[] WILD = {Integer.MIN_VALUE, Integer.MIN_VALUE + 1, -1000, -15, -3, -2, -1, 0, 1, 2, 3, 4, 5,
        6, 7, 8, 9, 11, 12, 13, 17, 18, 30, 31, 39, 40, 41, 59, 60, 61, 99, 100, 159, 160, 255, 256, 998, 999, 1000,
        1004, 1005, 4095, 4096, 6030, 6130, 99999, 100000, Integer.MAX_VALUE - 1, Integer.MAX_VALUE};

    private long state;
    private OneReader reader;
    private Model model;
    private final List<String> calls = new ArrayList<>();

    private static int wrong = 0;
    private static long compared = 0;

    public static void main(String[] args) throws Exception {
        for (int run = 0; run < RUNS && wrong == 0; run++) {
            new ModelTest().play(run);
        }
        System.out.println(compared + " calls compared, " + wrong + " runs differ");
        if (wrong != 0) {
            System.exit(1);
        }
    }

    private void play(int run) throws Exception {
        state = run * 7919L + 17;
        reader = new OneReader();
        model = new Model();
        int firstEntries = below(14);
        for (int i = 0; i < firstEntries; i++) {
            word();
        }
        while (calls.size() < CALLS - 40 && wrong == 0) {
            step(below(100));
        }
    }

    private void step(int of) throws Exception {
        if (of < 4) {
            both("word", kindMore(), size(), below(13) - 1);
        } else if (of < 8) {
            both("deed", deedSet());
        } else if (of < 18) {
            both("live");
        } else if (of < 22) {
            both("set", below(4), below(3) == 0 ? below(5) - 1 : below(40));
        } else if (of < 25) {
            both("put", below(12), 1, below(13) - 1);
        } else if (of < 27) {
            both("put", below(12), 0, size());
        } else if (of < 30) {
            feedText();
        } else if (of < 33) {
            both("force", below(6));
        } else if (of < 38) {
            tellDays();
        } else if (of < 42) {
            sheets();
        } else if (of < 44) {
            both(below(2) == 0 ? "image" : "back");
        } else if (of < 46) {
            both("set", 1, 980 + below(20));
        } else if (of < 85) {
            ask();
        } else {
            wild();
        }
    }

    private void word() throws Exception {
        both("word", kindMore(), size(), below(13) - 1);
    }

    private int kindMore() {
        return below(60);
    }

    private int size() {
        return below(3) == 0 ? 1 + below(60) : 1 + below(9);
    }

    private int deedSet() {
        int most = 1 << model.count(0);
        return below(4) == 0 ? 1 + below(4096) : (1 << below(12)) & (most - 1) | (1 << below(12)) & (most - 1);
    }

    /** What changes nothing: all of it, with arguments that mostly fit. */
    private void ask() throws Exception {
        int n = below(4) == 0 ? below(61) : below(13);
        switch (below(25)) {
            case 0: both("count", below(9)); break;
            case 1: both("asks", below(3), below(12), below(13), below(3) == 0 ? below(1000) : below(12)); break;
            case 2: case 3: both("told", below(12), below(8)); break;
            case 4: case 5: both("now", below(3)); break;
            case 6: both("done", below(2)); break;
            case 7: both("needs", below(6)); break;
            case 8: case 9: both("run", n, below(5)); break;
            case 10: case 11: both("when", below(2), below(6), n); break;
            case 12: both("begin", n, below(2)); break;
            case 13: both("lobby", n, below(2)); break;
            case 14: both("soup", n, below(2)); break;
            case 15: case 16: both("road", below(12), n, below(2)); break;
            case 17: both("chain", below(12)); break;
            case 18: both("rings"); break;
            case 19: both("longest", below(2)); break;
            case 20: case 21: both("drawn", below(100000), n, 10 * below(101) + below(5)); break;
            case 22: case 23: odds(n); break;
            default: both("taken", below(18), below(7)); break;
        }
    }

    private void odds(int n) throws Exception {
        int seed = below(10) == 0 ? 99999 : below(100000);
        int daysSeeds = 100 * below(8) + 1 + below(30);
        int w = below(12);
        int odds = below(101);
        both("odds", seed, daysSeeds, w, odds, 0);
        both("odds", seed, daysSeeds, w, odds, 1);
    }

    /** A SHEET that mostly tells true, then all that is asked of told days. */
    private void tellDays() throws Exception {
        int s = below(4);
        both("film", s, below(8));
        if (below(3) == 0) {
            both("set", 2, below(12));
        }
        if (below(4) == 0) {
            both("cell", s, below(8), below(4096));
        }
        if (below(4) == 0) {
            both("set", 3, below(64));
        }
        both("judge", s);
        both("begins", s);
        for (int sort = 0; sort < 3; sort++) {
            both("kinds", s, below(12), sort);
        }
        both("skipped", s);
        both("laws", s);
    }

    private void sheets() throws Exception {
        int s = below(4);
        both("sheet", s, below(5) - 1 > 2 ? 2 : below(4) - 1, below(41));
        for (int i = 0; i < 6; i++) {
            both("cell", s, below(14), below(3) == 0 ? below(70000) - 2000 : below(60));
        }
        both("copy", s, below(10), below(4), below(10), below(10));
        both("wordsBy", s, below(3), below(12), below(5));
        both("judge", s);
    }

    /** Any call with any arguments. */
    private void wild() throws Exception {
        Method[] all = Model.class.getDeclaredMethods();
        List<Method> open = new ArrayList<>();
        for (Method m : all) {
            if (java.lang.reflect.Modifier.isPublic(m.getModifiers())) {
                open.add(m);
            }
        }
        open.sort((a, b) -> a.getName().compareTo(b.getName()));
        Method m = open.get(below(open.size()));
        int[] args = new int[m.getParameterCount()];
        for (int i = 0; i < args.length; i++) {
            args[i] = below(2) == 0 ? WILD[below(WILD.length)] : below(8);
        }
        both(m.getName(), args);
    }

    // ---- texts

    private void feedText() throws Exception {
        String text = "reads " + e(2) + ";holds " + e(2) + " ;\nworth " + e(2) + ";";
        if (below(3) == 0) {
            text = spoil(text);
        }
        for (int i = 0; i < text.length(); i += 5) {
            int[] six = new int[6];
            six[0] = Math.min(5, text.length() - i);
            for (int k = 0; k < six[0]; k++) {
                six[k + 1] = text.charAt(i + k);
            }
            both("feed", six);
        }
        both("text");
    }

    private String e(int deep) {
        switch (below(deep > 0 ? 14 : 4)) {
            case 0: return " " + below(12);
            case 1: return " " + below(10000);
            case 2: case 3: return " " + name();
            case 4: return "(" + e(deep - 1) + ")";
            case 5: return " -" + e(0);
            case 6: return e(deep - 1) + "+" + e(deep - 1);
            case 7: return e(deep - 1) + "-" + e(deep - 1);
            case 8: return e(deep - 1) + "*" + e(deep - 1);
            case 9: return "(" + e(deep - 1) + "<" + e(deep - 1) + ")";
            case 10: return "(" + e(deep - 1) + "=" + e(deep - 1) + ")";
            case 11: return "(" + e(deep - 1) + " and" + e(deep - 1) + ")";
            case 12: return "(" + e(deep - 1) + " or" + e(deep - 1) + ")";
            default: return "(not" + e(deep - 1) + ")";
        }
    }

    private String name() {
        return new String[] {"day", "more", "pages", "entry", "words", "behind"}[below(6)];
    }

    private String spoil(String text) {
        int at = below(text.length());
        String[] bits = {"", "(", ")", "-", "not", " not ", ";", "<", "= ", "day", " day ", "12345", " 0012 ", "$", "A", "\t",
            "((((((", "------", " not not not", "reads", " ", "\u00e9", "\u0000"};
        String bit = bits[below(bits.length)];
        if (below(2) == 0) {
            return text.substring(0, at) + bit + text.substring(at);
        }
        return text.substring(0, at) + bit + text.substring(Math.min(text.length(), at + 1 + below(4)));
    }

    // ---- both at once

    private void both(String name, int... args) throws Exception {
        Class<?>[] types = new Class<?>[args.length];
        Object[] boxed = new Object[args.length];
        StringBuilder told = new StringBuilder(name).append('(');
        for (int i = 0; i < args.length; i++) {
            types[i] = int.class;
            boxed[i] = args[i];
            told.append(i == 0 ? "" : ", ").append(args[i]);
        }
        calls.add(told.append(')').toString());
        Object got = OneReader.class.getMethod(name, types).invoke(reader, boxed);
        Object want = Model.class.getMethod(name, types).invoke(model, boxed);
        compared++;
        if (!got.equals(want) && wrong == 0) {
            wrong++;
            for (String call : calls) {
                System.out.println("  " + call);
            }
            System.out.println("answered " + got + ", the Model " + want);
        }
    }

    private int below(int most) {
        state = state * 6364136223846793005L + 1442695040888963407L;
        return (int) Long.remainderUnsigned(state >>> 33, most);
    }
}
