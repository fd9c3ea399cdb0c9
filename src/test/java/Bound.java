import java.util.function.Supplier;

/** One call tried with one number after the other, each on an object of its own. */
final class Bound {
    /** Stands in the arguments for the number that is tried. */
    static final int V = 0x5eed5eed;
    static final int MIN = Integer.MIN_VALUE, MAX = Integer.MAX_VALUE;

    private final Supplier<OneReader> made;
    private final String name;
    private final int[] args;

    private Bound(Supplier<OneReader> made, String name, int[] args) {
        this.made = made;
        this.name = name;
        this.args = args;
    }

    static Bound call(Supplier<OneReader> made, String name, int... args) {
        return new Bound(made, name, args);
    }

    /** What is refused changes nothing, nor does what is asked. */
    static void unchanged(Supplier<OneReader> made, long due, String name, int... args) {
        OneReader x = made.get();
        String call = Call.told(name, args);
        Check.due(call, Call.on(x, name, args), due);
        Check.same(call, Everything.of(x), Everything.of(made.get()));
    }

    Bound is(long due, int... tried) {
        for (int v : tried) {
            int[] with = with(v);
            Check.due(Call.told(name, with), Call.on(made.get(), name, with), due);
        }
        return this;
    }

    Bound unchanged(long due, int... tried) {
        for (int v : tried) {
            unchanged(made, due, name, with(v));
        }
        return this;
    }

    private int[] with(int v) {
        int[] with = args.clone();
        for (int i = 0; i < with.length; i++) {
            with[i] = with[i] == V ? v : with[i];
        }
        return with;
    }
}
