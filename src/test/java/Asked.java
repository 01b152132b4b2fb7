import java.util.Arrays;
import java.util.function.Supplier;

/** Queries on new objects, and what is due of them. */
final class Asked {
    private final Due due;

    Asked(Due due) {
        this.due = due;
    }

    static int[] joined(int[]... parts) {
        return Arrays.stream(parts).flatMapToInt(Arrays::stream).toArray();
    }

    /** The first tokens, and then the others over and over. */
    static int[] forty(int[] first, int... others) {
        int[] all = Arrays.copyOf(first, 40);
        for (int i = first.length; i < 40; i++) {
            all[i] = others[(i - first.length) % others.length];
        }
        return all;
    }

    /** What compile answers to these tokens on a new object. */
    void place(int expected, int... tokens) {
        PathQueries x = new PathQueries(4);
        int got = Calls.compile(x, tokens);
        due.is("compile of " + Arrays.toString(tokens), got, expected);
        due.is("a query after " + Arrays.toString(tokens), x.select(0) == Calls.REFUSED ? 1 : 0, expected == 0 ? 0 : 1);
    }

    /** What a query gives from a node of the sample. */
    void gives(int from, long[] ids, int... tokens) {
        gives(() -> Calls.sample(40), from, ids, tokens);
    }

    /** What a query gives from a node; the ids are told in any order and are due in document order. */
    void gives(Supplier<PathQueries> maker, int from, long[] ids, int... tokens) {
        PathQueries x = maker.get();
        String name = Arrays.toString(tokens) + " from " + from;
        due.is("compile of " + name, Calls.compile(x, tokens), 0);
        // The rank is asked once for each id: an object is good for 512 calls.
        long[] sorted = Arrays.stream(ids).map(id -> 64L * x.rank((int) id) + id).sorted().map(key -> key % 64).toArray();
        due.is("select of " + name, x.select(from), ids.length);
        due.are("the result of " + name, Calls.picks(x), sorted);
        due.is("total() of " + name, x.total(), Arrays.stream(ids).map(id -> x.value((int) id)).sum());
    }
}
