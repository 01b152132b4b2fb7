import java.util.Arrays;

/** Short ways to use a PathQueries object in the tests. */
final class Calls {
    static final int REFUSED = PathQueries.REFUSED;
    static final int FULL = PathQueries.FULL;

    private Calls() {
    }

    /**
     * Thirteen nodes, as "id:name=value":
     *
     * <pre>
     * 0:0=0
     *   1:1=5
     *     4:2=1
     *       7:1=9
     *     5:3=2
     *     6:2=3
     *   2:2=6
     *     8:1=-4
     *       9:2=-4
     *   3:1=7
     *     10:2=0
     *       11:2=12
     *       12:3=12
     * </pre>
     */
    static PathQueries sample(int limit) {
        PathQueries x = new PathQueries(limit);
        x.insert(0, 0, 1, 5);
        x.insert(0, 1, 2, 6);
        x.insert(0, 2, 1, 7);
        x.insert(1, 0, 2, 1);
        x.insert(1, 1, 3, 2);
        x.insert(1, 2, 2, 3);
        x.insert(4, 0, 1, 9);
        x.insert(2, 0, 1, -4);
        x.insert(8, 0, 2, -4);
        x.insert(3, 0, 2, 0);
        x.insert(10, 0, 2, 12);
        x.insert(10, 1, 3, 12);
        return x;
    }

    static int compile(PathQueries x, int... tokens) {
        for (int token : tokens) {
            x.put(token, 0, 0);
        }
        return x.compile();
    }

    /** The result as it can be picked, whatever select answered. */
    static long[] picks(PathQueries x) {
        int count = 0;
        while (x.picked(count) != REFUSED) {
            count++;
        }
        long[] ids = new long[count];
        for (int i = 0; i < count; i++) {
            ids[i] = x.picked(i);
        }
        return ids;
    }

    static long[] children(PathQueries x, int node) {
        int count = 0;
        while (x.child(node, count) != REFUSED) {
            count++;
        }
        long[] ids = new long[count];
        for (int i = 0; i < count; i++) {
            ids[i] = x.child(node, i);
        }
        return ids;
    }

    /** What can be asked of the tree for the ids below a bound, so that two of these tell whether a call changed it. */
    static String tree(PathQueries x, int bound) {
        StringBuilder text = new StringBuilder();
        for (int id = 0; id < bound; id++) {
            long[] asked = {id, x.parent(id), x.rank(id), x.size(id), x.value(id)};
            text.append(Arrays.toString(asked)).append(Arrays.toString(children(x, id)));
        }
        return text.toString();
    }
}
