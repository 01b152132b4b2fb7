import java.util.Arrays;
import java.util.function.IntUnaryOperator;
import java.util.stream.IntStream;

/** Short ways to use a PathQueries object in the tests. */
final class Calls {
    static final int REFUSED = PathQueries.REFUSED;
    static final int FULL = PathQueries.FULL;

    private Calls() {
    }

    /**
     * Thirteen nodes, as "id:name=value":
     *
     * <pre>
     * 0:0=0
     *   1:1=5
     *     4:2=1
     *       7:1=9
     *     5:3=2
     *     6:2=3
     *   2:2=6
     *     8:1=-4
     *       9:2=-4
     *   3:1=7
     *     10:2=0
     *       11:2=12
     *       12:3=12
     * </pre>
     */
    static PathQueries sample(int limit) {
        PathQueries x = new PathQueries(limit);
        x.insert(0, 0, 1, 5);
        x.insert(0, 1, 2, 6);
        x.insert(0, 2, 1, 7);
        x.insert(1, 0, 2, 1);
        x.insert(1, 1, 3, 2);
        x.insert(1, 2, 2, 3);
        x.insert(4, 0, 1, 9);
        x.insert(2, 0, 1, -4);
        x.insert(8, 0, 2, -4);
        x.insert(3, 0, 2, 0);
        x.insert(10, 0, 2, 12);
        x.insert(10, 1, 3, 12);
        return x;
    }

    /** Forty nodes or less, each the only child of the one before it: the ids are the ranks and the values. */
    static PathQueries chain(int nodes) {
        PathQueries x = new PathQueries(nodes);
        for (int id = 1; id < nodes; id++) {
            x.insert(id - 1, 0, id % 8, id);
        }
        return x;
    }

    /** Forty nodes or less, all below the root: the ids are the ranks and the values. */
    static PathQueries star(int nodes) {
        PathQueries x = new PathQueries(nodes);
        for (int id = 1; id < nodes; id++) {
            x.insert(0, id - 1, id % 8, id);
        }
        return x;
    }

    /** Puts the tokens behind those that are pending, in as few calls as can be. */
    static void put(PathQueries x, int... tokens) {
        int[] all = Arrays.copyOf(tokens, tokens.length + 2);
        for (int i = 0; i < tokens.length; i += 3) {
            x.put(all[i], all[i + 1], all[i + 2]);
        }
    }

    static int compile(PathQueries x, int... tokens) {
        put(x, tokens);
        return x.compile();
    }

    /** The result as it can be picked, whatever select answered. */
    static long[] picks(PathQueries x) {
        return untilRefused(place -> x.picked(place));
    }

    static long[] children(PathQueries x, int node) {
        return untilRefused(place -> x.child(node, place));
    }

    private static long[] untilRefused(IntUnaryOperator call) {
        return IntStream.iterate(0, place -> place + 1).map(call).takeWhile(id -> id != REFUSED).asLongStream().toArray();
    }

    /**
     * All that the calls of an object can show, so that two of these tell whether two objects are alike. The object is used
     * up by it: it takes some 420 calls if there are forty nodes.
     */
    static String state(PathQueries x) {
        StringBuilder text = new StringBuilder(result(x));
        for (int id = -1; id <= 40; id++) {
            long[] asked = {id, x.parent(id), x.rank(id), x.size(id), x.value(id)};
            text.append(Arrays.toString(asked)).append(Arrays.toString(children(x, id)));
        }
        text.append(" query ").append(x.select(0)).append(result(x));
        text.append(" pending ").append(x.put(0, 0, 0)).append(' ').append(x.compile());
        text.append(' ').append(x.select(0)).append(result(x));
        for (int id = 0; id < 40; id++) {
            text.append(' ').append(x.alter(id, 0, 0));
        }
        return text.append(' ').append(x.insert(0, 0, 0, 0)).toString();
    }

    private static String result(PathQueries x) {
        return Arrays.toString(picks(x)) + x.total();
    }
}
