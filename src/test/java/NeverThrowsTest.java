/**
 * Rule 7 of LANGUAGE.md: no call may ever throw or fail to end, for any arguments in any state. So the calls go on here long
 * after the 512th, and what they answer isn't looked at.
 */
public final class NeverThrowsTest {
    private static final int[] LIMITS = {Integer.MIN_VALUE, 0, 4, 7, 40, Integer.MAX_VALUE};
    private static final int[] EXTREMES = {Integer.MIN_VALUE, Integer.MIN_VALUE + 1, -41, -1, 40, 41, 64, 1 << 16,
        Integer.MAX_VALUE - 1, Integer.MAX_VALUE};
    private static final int CALLS = 100_000;
    private static final Due due = new Due();

    private final Numbers numbers;
    private final QueryMaker maker;
    private final PathQueries x;

    private NeverThrowsTest(int limit) {
        numbers = new Numbers(limit);
        maker = new QueryMaker(numbers);
        x = new PathQueries(limit);
    }

    public static void main(String[] args) {
        Runnable[] tests = new Runnable[LIMITS.length];
        for (int i = 0; i < LIMITS.length; i++) {
            int limit = LIMITS[i];
            tests[i] = () -> new NeverThrowsTest(limit).run("limit " + limit);
        }
        due.run(tests);
    }

    private void run(String what) {
        due.about(what);
        for (int i = 0; i < CALLS; i++) {
            call();
        }
        due.is("the root is there", x.rank(0), 0);
    }

    private int any() {
        return numbers.oneIn(6) ? EXTREMES[numbers.below(EXTREMES.length)] : numbers.below(40);
    }

    private int low() {
        return numbers.oneIn(6) ? any() : numbers.below(8);
    }

    private void call() {
        switch (numbers.below(16)) {
            case 0 -> x.remove(any());
            case 1, 2 -> x.move(any(), any(), low());
            case 3 -> x.alter(any(), low(), any());
            case 4 -> x.parent(any());
            case 5 -> x.child(any(), low());
            case 6 -> x.rank(any());
            case 7 -> x.size(any());
            case 8 -> x.value(any());
            case 9 -> Calls.compile(x, maker.query());
            case 10 -> x.put(any(), low(), any());
            case 11 -> x.select(any());
            case 12 -> x.picked(any());
            case 13 -> x.total();
            default -> x.insert(any(), low(), low(), any());
        }
    }
}
