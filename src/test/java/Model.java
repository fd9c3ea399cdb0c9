import java.math.BigInteger;
import java.util.ArrayList;
import java.util.List;
import java.util.TreeSet;

/**
 * The document once more, in its slowest and plainest form: page by page, link by link, each thought a whole copy.
 * It shares no code with OneReader, so that a slip in one of them shows when both are asked the same.
 */
public final class Model {
    static final class Item {
        int kind, more, pages, to, readOn = -1;

        Item same() {
            Item i = new Item();
            i.kind = kind; i.more = more; i.pages = pages; i.to = to; i.readOn = readOn;
            return i;
        }
    }

    interface Node {
        int of(int[] names);
    }

    static final class Fault extends RuntimeException {
        private static final long serialVersionUID = 1L;
        final int place;

        Fault(int place) {
            super(null, null, false, false);
            this.place = place;
        }
    }

    /** One object's whole state; copied for each thought. */
    static final class World {
        List<Item> items = new ArrayList<>();
        List<Integer> deeds = new ArrayList<>();
        int page, day, mark = -1, law, lastBegan;
        TreeSet<Integer> skips = new TreeSet<>(), came = new TreeSet<>();

        World same() {
            World w = new World();
            for (Item i : items) w.items.add(i.same());
            w.deeds.addAll(deeds);
            w.page = page; w.day = day; w.mark = mark; w.law = law; w.lastBegan = lastBegan;
            w.skips.addAll(skips);
            w.came.addAll(came);
            return w;
        }
    }

    private World now = new World();
    private World kept;
    private final List<Node[]> texts = new ArrayList<>();
    private String tape = "";
    private final int[] sorts = {-1, -1, -1, -1};
    private final int[][] rows = new int[4][];

    public Model() {
        texts.add(new Parser("reads 10 ; holds 1 ; worth 5 + words ;").text());
    }

    // ---- texts

    static final class Parser {
        final String s;
        int at, open;

        Parser(String s) {
            this.s = s;
        }

        void blanks() {
            while (at < s.length() && (s.charAt(at) == ' ' || s.charAt(at) == '\n')) at++;
        }

        /** The TOKEN that comes next, as it is written; "" at the end; not taken yet. */
        String peek() {
            blanks();
            if (at == s.length()) return "";
            int end = at;
            if (Character.toString(s.charAt(at)).matches("[a-z]")) {
                while (end < s.length() && s.charAt(end) >= 'a' && s.charAt(end) <= 'z') end++;
            } else if (Character.toString(s.charAt(at)).matches("[0-9]")) {
                while (end < s.length() && s.charAt(end) >= '0' && s.charAt(end) <= '9') end++;
            } else {
                end++;
            }
            return s.substring(at, end);
        }

        void take(String token) {
            if (!peek().equals(token)) throw new Fault(at);
            at += token.length();
        }

        Node[] text() {
            Node[] parts = new Node[3];
            String[] keys = {"reads", "holds", "worth"};
            for (int i = 0; i < 3; i++) {
                take(keys[i]);
                parts[i] = e();
                take(";");
            }
            if (!peek().isEmpty()) throw new Fault(at);
            return parts;
        }

        Node e() {
            Node a = and();
            while (peek().equals("or")) {
                take("or");
                Node l = a, r = and();
                a = n -> (l.of(n) != 0) | (r.of(n) != 0) ? 1 : 0;
            }
            return a;
        }

        Node and() {
            Node a = not();
            while (peek().equals("and")) {
                take("and");
                Node l = a, r = not();
                a = n -> (l.of(n) != 0) & (r.of(n) != 0) ? 1 : 0;
            }
            return a;
        }

        Node not() {
            if (peek().equals("not")) {
                if (open == 5) throw new Fault(at);
                open++;
                take("not");
                Node a = not();
                open--;
                return n -> a.of(n) == 0 ? 1 : 0;
            }
            Node l = sum();
            String sign = peek();
            if (!sign.equals("<") && !sign.equals("=")) return l;
            take(sign);
            Node r = sum();
            return sign.equals("<") ? n -> l.of(n) < r.of(n) ? 1 : 0 : n -> l.of(n) == r.of(n) ? 1 : 0;
        }

        Node sum() {
            Node a = term();
            while (peek().equals("+") || peek().equals("-")) {
                boolean plus = peek().equals("+");
                take(peek());
                Node l = a, r = term();
                a = plus ? n -> l.of(n) + r.of(n) : n -> l.of(n) - r.of(n);
            }
            return a;
        }

        Node term() {
            Node a = one();
            while (peek().equals("*")) {
                take("*");
                Node l = a, r = one();
                a = n -> BigInteger.valueOf(l.of(n)).multiply(BigInteger.valueOf(r.of(n))).intValue();
            }
            return a;
        }

        Node one() {
            String token = peek();
            if (token.matches("[0-9]{1,4}")) {
                take(token);
                int v = Integer.parseInt(token);
                return n -> v;
            }
            int name = List.of("day", "more", "pages", "entry", "words", "behind").indexOf(token);
            if (name >= 0) {
                take(token);
                return n -> n[name];
            }
            if (token.equals("-") || token.equals("(")) {
                if (open == 5) throw new Fault(at);
                open++;
                take(token);
                if (token.equals("-")) {
                    Node a = one();
                    open--;
                    return n -> -a.of(n);
                }
                Node a = e();
                take(")");
                open--;
                return a;
            }
            throw new Fault(at);
        }
    }

    private int says(World x, int part, int w, int words, int behind) {
        Item i = x.items.get(w);
        int v = texts.get(x.law)[part].of(new int[] {x.day, i.more, i.pages, w, words, behind});
        if (part == 1) return v == 0 ? 0 : 1;
        return v < 0 ? 0 : v > 99 ? 99 : v;
    }

    // ---- kinds

    static boolean is(int kind, int as) {
        int[][] all = {{0}, {1, 0}, {2, 0}, {3, 1, 0}, {4, 2, 0}, {5, 0}};
        for (int k : all[kind]) if (k == as) return true;
        return false;
    }

    static int takes(Item i) {
        int t = i.pages;
        if (i.kind == 2 || i.kind == 4) t += i.more / 3;
        if (i.kind == 5) t /= 2;
        return t < 1 ? 1 : t;
    }

    static boolean needs(Item i) {
        return i.kind != 2 && i.kind != 4;
    }

    private boolean itself(World x, int w) {
        Item i = x.items.get(w);
        boolean read = i.readOn == x.day;
        int behind = i.readOn == -1 ? 999 : x.day < i.readOn ? 0 : x.day - i.readOn;
        boolean yes = says(x, 1, w, x.came.size(), behind) == 1;
        boolean entry = read && yes;
        boolean habit = entry || yes && behind <= i.more;
        if (i.kind == 0 || i.kind == 2) return entry;
        if (i.kind == 1) return habit;
        if (i.kind == 3) return habit && x.day % 10 >= i.more / 2 || x.day % 10 == i.more;
        if (i.kind == 4) return entry || i.more > 4;
        return entry && behind % 2 == i.more % 2;
    }

    private boolean holds(World x, int w) {
        TreeSet<Integer> seen = new TreeSet<>();
        int at = w;
        while (at >= 0 && at < x.items.size() && seen.add(at)) {
            if (!itself(x, at)) return false;
            if (!needs(x.items.get(at))) return true;
            at = x.items.get(at).to;
        }
        return true;
    }

    private int held(World x) {
        int bits = 0;
        for (int w = 0; w < x.items.size(); w++) if (holds(x, w)) bits += 1 << w;
        return bits;
    }

    private boolean can(World x, int d) {
        for (int w = 0; w < x.items.size(); w++) if ((x.deeds.get(d) >> w & 1) == 1 && !holds(x, w)) return false;
        return true;
    }

    private int cans(World x) {
        int bits = 0;
        for (int d = 0; d < x.deeds.size(); d++) if (can(x, d)) bits += 1 << d;
        return bits;
    }

    private int worth(World x) {
        int sum = 0;
        for (int d = 0; d < x.deeds.size(); d++) {
            int set = x.deeds.get(d);
            if (can(x, d)) sum += says(x, 2, Integer.numberOfTrailingZeros(set), Integer.bitCount(set), 0);
        }
        return sum;
    }

    // ---- days

    /** For each PAGE, the ENTRY that it belongs to. */
    private List<Integer> pages(World x) {
        List<Integer> all = new ArrayList<>();
        for (int w = 0; w < x.items.size(); w++) for (int k = 0; k < takes(x.items.get(w)); k++) all.add(w);
        return all;
    }

    private static int bits(TreeSet<Integer> set) {
        int b = 0;
        for (int w : set) b += 1 << w;
        return b;
    }

    private void day(World x) {
        x.day++;
        x.came.clear();
        List<Integer> pages = pages(x);
        if (pages.isEmpty()) return;
        int at = x.mark >= 0 ? pages.indexOf(x.mark) : x.page % pages.size();
        x.mark = -1;
        x.lastBegan = at;
        int many = Math.min(says(x, 0, pages.get(at), 0, 0), pages.size());
        for (int k = 0; k < many; k++) {
            int w = pages.get(at);
            if (!x.skips.contains(w)) {
                x.came.add(w);
                x.items.get(w).readOn = x.day;
            }
            at = at + 1 == pages.size() ? 0 : at + 1;
        }
        x.page = at;
    }

    private int days(World x, int n, int what, int seed, int odds) {
        BigInteger lot = BigInteger.valueOf(seed + 1L);
        int worth = 0, done = 0, held = 0, came = 0;
        for (int i = 0; i < n; i++) {
            lot = lot.multiply(BigInteger.valueOf(48271)).mod(BigInteger.valueOf(2147483647));
            if (lot.mod(BigInteger.valueOf(100)).intValue() < odds && i != 0) x.page = x.lastBegan;
            day(x);
            worth += worth(x);
            done |= cans(x);
            held |= held(x);
            came |= bits(x.came);
        }
        return new int[] {worth, done, held, came, x.page}[what];
    }

    private int worthOf(World x, int n) {
        return days(x, n, 0, 0, 0);
    }

    private static boolean in(int v, int least, int most) {
        return v >= least && v <= most;
    }

    private boolean has(int w) {
        return in(w, 0, now.items.size() - 1);
    }

    // ---- the face

    public int count(int what) {
        if (!in(what, 0, 8)) return -2;
        return new int[] {now.items.size(), now.deeds.size(), now.page, now.day, now.mark, bits(now.skips),
            texts.size(), now.law, tape.length()}[what];
    }

    public int set(int what, int v) {
        if (what == 0) {
            int many = pages(now).size();
            if (!in(v, 0, many == 0 ? 0 : many - 1)) return -7;
            int was = now.page;
            now.page = v;
            return was;
        }
        if (what == 1) {
            if (!in(v, 0, 999)) return -7;
            int was = now.day;
            now.day = v;
            return was;
        }
        if (what == 2) {
            if (v != -1 && !has(v)) return -7;
            int was = now.mark;
            now.mark = v;
            return was;
        }
        if (what == 3) {
            if (!in(v, 0, (1 << now.items.size()) - 1)) return -7;
            int was = bits(now.skips);
            now.skips.clear();
            for (int w = 0; w < 12; w++) if ((v >> w & 1) == 1) now.skips.add(w);
            return was;
        }
        return -5;
    }

    public int feed(int n, int a, int b, int c, int d, int e) {
        if (!in(n, 1, 5)) return -2;
        for (int v : new int[] {a, b, c, d, e}) if (!in(v, 0, 255)) return -2;
        if (tape.length() + n > 160) return -4;
        tape += new String(new char[] {(char) a, (char) b, (char) c, (char) d, (char) e}, 0, n);
        return tape.length();
    }

    public int text() {
        if (texts.size() == 6) return -4;
        String was = tape;
        tape = "";
        try {
            texts.add(new Parser(was).text());
        } catch (Fault f) {
            return -100 - f.place;
        }
        return texts.size() - 1;
    }

    public int force(int t) {
        if (!in(t, 0, texts.size() - 1)) return -2;
        int was = now.law;
        now.law = t;
        return was;
    }

    public int asks(int part, int w, int many, int behind) {
        if (!in(part, 0, 2) || !has(w) || !in(many, 0, 12) || !in(behind, 0, 999)) return -2;
        return says(now, part, w, many, behind);
    }

    public int word(int kindMore, int many, int to) {
        if (!in(kindMore, 0, 59) || !in(many, 1, 60) || !in(to, -1, 11)) return -2;
        if (now.items.size() == 12) return -4;
        Item i = new Item();
        i.kind = kindMore / 10; i.more = kindMore % 10; i.pages = many; i.to = to;
        now.items.add(i);
        return now.items.size() - 1;
    }

    public int told(int w, int what) {
        if (!has(w)) return -5;
        if (!in(what, 0, 7)) return -7;
        Item i = now.items.get(w);
        return new int[] {i.kind, i.more, i.pages, i.to, i.readOn, takes(i), pages(now).indexOf(w),
            needs(i) ? 1 : 0}[what];
    }

    public int put(int w, int what, int v) {
        if (!has(w)) return -5;
        Item i = now.items.get(w);
        if (what == 0 && in(v, 1, 60)) {
            int was = i.pages;
            i.pages = v;
            return was;
        }
        if (what == 1 && in(v, -1, 11)) {
            int was = i.to;
            i.to = v;
            return was;
        }
        return -7;
    }

    public int live() {
        if (now.day == 999) return -4;
        day(now);
        return bits(now.came);
    }

    public int now(int what) {
        if (what == 0) return held(now);
        if (what == 1) return bits(now.came);
        if (what != 2) return -2;
        int bits = 0;
        for (int w = 0; w < now.items.size(); w++) if (itself(now, w)) bits += 1 << w;
        return bits;
    }

    public int deed(int set) {
        if (!in(set, 1, (1 << now.items.size()) - 1)) return -2;
        if (now.deeds.size() == 6) return -4;
        now.deeds.add(set);
        return now.deeds.size() - 1;
    }

    public int needs(int d) {
        return in(d, 0, now.deeds.size() - 1) ? now.deeds.get(d) : -5;
    }

    public int done(int what) {
        return what == 0 ? cans(now) : what == 1 ? worth(now) : -2;
    }

    public int run(int n, int what) {
        if (!in(n, 0, 60) || !in(what, 0, 4)) return -2;
        return days(now.same(), n, what, 0, 0);
    }

    public int when(int sort, int of, int n) {
        if (!in(sort, 0, 1) || !in(of, 0, (sort == 0 ? now.items.size() : now.deeds.size()) - 1)) return -5;
        if (!in(n, 0, 60)) return -7;
        World x = now.same();
        for (int i = 0; i < n; i++) {
            day(x);
            if (sort == 0 ? holds(x, of) : can(x, of)) return i;
        }
        return -1;
    }

    public int begin(int n, int what) {
        if (!in(n, 0, 60) || !in(what, 0, 1)) return -2;
        int best = -1, most = 0;
        for (int w = 0; w < now.items.size(); w++) {
            World x = now.same();
            x.page = pages(x).indexOf(w);
            x.mark = -1;
            int v = worthOf(x, n);
            if (best == -1 || v > most) {
                best = w;
                most = v;
            }
        }
        return what == 0 ? best : most;
    }

    public int lobby(int n, int what) {
        if (!in(n, 0, 60) || !in(what, 0, 1)) return -2;
        int best = -1, most = worthOf(now.same(), n);
        for (int w = 0; w < now.items.size(); w++) {
            World x = now.same();
            x.mark = w;
            int v = worthOf(x, n);
            if (v > most) {
                best = w;
                most = v;
            }
        }
        return what == 0 ? best : most;
    }

    public int soup(int n, int what) {
        if (!in(n, 0, 60) || !in(what, 0, 1)) return -2;
        int best = -1, least = worthOf(now.same(), n);
        for (int w = 0; w < now.items.size(); w++) {
            World x = now.same();
            x.skips.add(w);
            int v = worthOf(x, n);
            if (v < least) {
                best = w;
                least = v;
            }
        }
        return what == 0 ? best : least;
    }

    public int road(int w, int n, int what) {
        if (!has(w)) return -5;
        if (!in(n, 0, 60) || !in(what, 0, 1)) return -7;
        int best = -1, most = worthOf(now.same(), n);
        for (int to = -1; to < now.items.size(); to++) {
            World x = now.same();
            x.items.get(w).to = to;
            int v = worthOf(x, n);
            if (v > most) {
                best = to == -1 ? -2 : to;
                most = v;
            }
        }
        return what == 0 ? best : most;
    }

    public int chain(int w) {
        if (!has(w)) return -5;
        TreeSet<Integer> seen = new TreeSet<>();
        int at = w;
        while (has(at) && seen.add(at)) at = needs(now.items.get(at)) ? now.items.get(at).to : -1;
        return bits(seen);
    }

    public int rings() {
        int b = 0;
        for (int w = 0; w < now.items.size(); w++) {
            int at = w;
            for (int k = 0; k < 20 && has(at); k++) {
                at = now.items.get(at).to;
                if (at == w) b |= 1 << w;
            }
        }
        return b;
    }

    public int longest(int what) {
        if (!in(what, 0, 1)) return -2;
        int best = -1;
        for (int w = 0; w < now.items.size(); w++) {
            if (best == -1 || Integer.bitCount(chain(w)) > Integer.bitCount(chain(best))) best = w;
        }
        return what == 0 || best == -1 ? best : Integer.bitCount(chain(best));
    }

    private int refusal(int s) {
        return !in(s, 0, 3) ? -2 : rows[s] == null ? -11 : 0;
    }

    private boolean fits(World x, int s) {
        return otherwise(x, s) == -1;
    }

    private int otherwise(World x, int s) {
        for (int i = 0; i < rows[s].length; i++) {
            day(x);
            if (held(x) != rows[s][i]) return i;
        }
        return -1;
    }

    public int judge(int s) {
        return refusal(s) != 0 ? refusal(s) : otherwise(now.same(), s);
    }

    public int begins(int s) {
        if (refusal(s) != 0) return refusal(s);
        int b = 0;
        for (int w = 0; w < now.items.size(); w++) {
            World x = now.same();
            x.mark = -1;
            x.page = pages(x).indexOf(w);
            if (fits(x, s)) b += 1 << w;
        }
        return b;
    }

    public int kinds(int s, int w, int sort) {
        if (refusal(s) != 0) return refusal(s);
        if (!has(w)) return -5;
        if (!in(sort, 0, 2)) return -7;
        int b = 0;
        int many = new int[] {6, 10, now.items.size() + 1}[sort];
        for (int v = 0; v < many; v++) {
            World x = now.same();
            Item i = x.items.get(w);
            if (sort == 0) i.kind = v;
            if (sort == 1) i.more = v;
            if (sort == 2) i.to = v - 1;
            if (fits(x, s)) b += 1 << v;
        }
        return b;
    }

    public int skipped(int s) {
        if (refusal(s) != 0) return refusal(s);
        int b = 0;
        for (int w = 0; w <= 12; w++) {
            if (w < 12 && !has(w)) continue;
            World x = now.same();
            x.skips.clear();
            if (w < 12) x.skips.add(w);
            if (fits(x, s)) b += 1 << w;
        }
        return b;
    }

    public int laws(int s) {
        if (refusal(s) != 0) return refusal(s);
        int b = 0;
        for (int t = 0; t < texts.size(); t++) {
            World x = now.same();
            x.law = t;
            if (fits(x, s)) b += 1 << t;
        }
        return b;
    }

    public int film(int s, int n) {
        if (!in(s, 0, 3) || !in(n, 0, 40)) return -2;
        sorts[s] = 1;
        rows[s] = new int[n];
        World x = now.same();
        for (int i = 0; i < n; i++) {
            day(x);
            rows[s][i] = held(x);
        }
        return n;
    }

    public int drawn(int seed, int n, int oddsWhat) {
        if (!in(seed, 0, 99999) || !in(n, 0, 60) || !in(oddsWhat, 0, 1004) || oddsWhat % 10 > 4) return -2;
        return days(now.same(), n, oddsWhat % 10, seed, oddsWhat / 10);
    }

    public long odds(int seed, int daysSeeds, int w, int odds, int part) {
        if (!in(seed, 0, 99999) || !in(daysSeeds, 0, 6099) || !in(daysSeeds % 100, 1, 30) || !has(w)
                || !in(odds, 0, 100) || !in(part, 0, 1)) return -4611686018427387904L;
        int above = 0, below = daysSeeds % 100;
        for (int i = 0; i < below; i++) above += days(now.same(), daysSeeds / 100, 2, seed + i, odds) >> w & 1;
        BigInteger g = BigInteger.valueOf(above).gcd(BigInteger.valueOf(below));
        return (part == 0 ? above : below) / g.intValue();
    }

    public int image() {
        kept = now.same();
        return kept.items.size();
    }

    public int back() {
        if (kept == null) return -3;
        now = kept.same();
        return now.items.size();
    }

    public int sheet(int s, int sort, int n) {
        if (!in(s, 0, 3) || !in(sort, -1, 2)) return -2;
        if (sort == -1) {
            sorts[s] = -1;
            rows[s] = null;
            return 1;
        }
        if (n > 40) return -2;
        if (n < 0) return -14;
        sorts[s] = sort;
        rows[s] = new int[n];
        return 1;
    }

    public int cell(int s, int i, int v) {
        if (refusal(s) != 0) return refusal(s);
        if (!in(i, 0, rows[s].length - 1)) return -12;
        rows[s][i] = sorts[s] == 0 ? (v << 24) >> 24 : sorts[s] == 1 ? (v << 16) >> 16 : v;
        return 1;
    }

    public int copy(int s, int i, int other, int j, int n) {
        if (!in(s, 0, 3) || !in(other, 0, 3)) return -2;
        if (rows[s] == null || rows[other] == null) return -11;
        if (sorts[s] != sorts[other]) return -13;
        if (n < 0 || i < 0 || j < 0 || (long) i + n > rows[s].length || (long) j + n > rows[other].length) return -12;
        int[] was = rows[s].clone();
        for (int k = 0; k < n; k++) rows[other][j + k] = was[i + k];
        return n;
    }

    public int wordsBy(int s, int sort, int from, int n) {
        if (!in(s, 0, 3) || !in(sort, 0, 2) || !in(n, 0, 12)) return -2;
        if (rows[s] == null) return -11;
        if (sorts[s] != sort) return -13;
        int came = 0;
        for (int k = 0; k < n; k++) {
            long at = from + 3L * k;
            if (at < 0 || at + 2 >= rows[s].length) return -12;
            int p = (int) at;
            if (word(rows[s][p], rows[s][p + 1], rows[s][p + 2]) >= 0) came++;
        }
        return came;
    }

    public long taken(int i, int kind) {
        if (!in(kind, 0, 6)) return -2;
        if (!in(i, 0, 17)) return -12;
        if (i < 12) {
            if (!has(i)) return -11;
            return kind < 6 && is(now.items.get(i).kind, kind) ? i : -13;
        }
        if (!in(i - 12, 0, now.deeds.size() - 1)) return -11;
        return kind == 6 ? now.deeds.get(i - 12) : -13;
    }
}
