/** Promises 22 to 24: definitions. */
public final class DefinitionsTest {
    private static final int MIN = Integer.MIN_VALUE, MAX = Integer.MAX_VALUE;

    public static void main(String[] args) {
        chain();
        rings();
        longest();
        Check.end();
    }

    /** Kinds and to which they send on; of each LONG 1. */
    private static OneReader book(int... kindsTo) {
        OneReader x = new OneReader();
        for (int i = 0; i + 1 < kindsTo.length; i += 2) {
            x.word(kindsTo[i] * 10, 1, kindsTo[i + 1]);
        }
        return x;
    }

    private static void chains(OneReader x, int... due) {
        for (int w = 0; w < due.length; w++) {
            Check.due("chain(" + w + ")", x.chain(w), due[w]);
        }
    }

    private static void chain() {
        Check.promise(22);
        // a ring of three, a tail, one that sends on to itself, to none, to what isn't there
        chains(book(0, 1, 0, 2, 0, 0, 0, 1, 0, 4, 0, -1, 0, 11), 7, 7, 7, 15, 16, 32, 64);
        // the kinds: which need that to which they send on
        chains(book(0, 6, 1, 6, 2, 6, 3, 6, 4, 6, 5, 6, 0, -1), 65, 66, 4, 72, 16, 96, 64);
        // a foreign one in the middle ends it
        chains(book(0, 1, 2, 2, 0, 0), 3, 2, 7);
        OneReader x = book(0, 1);
        chains(x, 1);
        x.word(0, 1, -1);
        chains(x, 3, 2);
        x.put(0, 1, -1);
        chains(x, 1, 2);
        for (int w : new int[] {-1, 2, MIN, MAX}) {
            Check.due("chain(" + w + ")", x.chain(w), -5);
        }
        OneReader all = new OneReader();
        for (int w = 0; w < 12; w++) {
            all.word(0, 1, w == 11 ? -1 : w + 1);
        }
        chains(all, 4095, 4094);
    }

    private static void rings() {
        Check.promise(23);
        Check.due("rings()", new OneReader().rings(), 0);
        Check.due("rings()", book(0, 1, 0, 2, 0, 0, 0, 1, 0, 4, 0, -1, 0, 11).rings(), 7 + 16);
        Check.due("rings() of such as need none", book(2, 1, 4, 2, 2, 0, 2, 3, 0, 3).rings(), 7 + 8);
        Check.due("rings(): two and two", book(0, 2, 0, 3, 0, 0, 0, 1).rings(), 15);
        OneReader x = book(0, 1);
        Check.due("rings()", x.rings(), 0);
        x.word(0, 1, 0);
        Check.due("rings()", x.rings(), 3);
        OneReader all = new OneReader();
        for (int w = 0; w < 12; w++) {
            all.word(0, 1, (w + 1) % 12);
        }
        Check.due("rings() of twelve", all.rings(), 4095);
    }

    private static void longest() {
        Check.promise(24);
        OneReader x = new OneReader();
        Check.due("longest(0)", x.longest(0), -1);
        Check.due("longest(1)", x.longest(1), -1);
        x = book(0, -1);
        Check.due("longest(0)", x.longest(0), 0);
        Check.due("longest(1)", x.longest(1), 1);
        x = book(0, -1, 0, 0, 0, 1, 0, 1, 2, 2);
        Check.due("longest(0), the first of like ones", x.longest(0), 2);
        Check.due("longest(1)", x.longest(1), 3);
        for (int what : new int[] {-1, 2, MIN, MAX}) {
            Check.due("longest(" + what + ")", x.longest(what), -2);
        }
    }
}
