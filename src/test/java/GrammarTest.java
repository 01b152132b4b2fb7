import java.util.ArrayList;
import java.util.Arrays;
import java.util.List;

/**
 * Promise 12 by its own words: the place told is that of the first token such that no query begins with the tokens up to
 * it, and whether one does is found by trying ends.
 */
public final class GrammarTest {
    private static final int[] SOME = {1, 2, 3, 4, 5, 6, 7, 8, 9, 10, 11, 12, 13, 14, 15, 19, 20, 21, 24, 30, 31, 39, 40, 47,
        48, 49, 999, 1000, 2000, 3000, 3001, -1};
    // What may be missing before all that is open can be closed.
    private static final int[][] BEGINNINGS = {{}, {48}, {21, 48}, {9}, {13, 2000}, {2000}, {48, 13, 2000},
        {21, 48, 13, 2000}};

    public static void main(String[] args) {
        Due due = new Due();
        Numbers numbers = new Numbers(12);
        QueryMaker maker = new QueryMaker(numbers);
        PathQueries x = new PathQueries(4);
        for (int round = 0; round < 4000; round++) {
            // An object is good for 512 calls, and a round takes at most 41.
            if (round % 12 == 0) {
                x = new PathQueries(4);
            }
            int[] tokens = round % 5 == 0 ? freely(numbers) : maker.query();
            if (round % 5 > 1) {
                tokens = spoiled(tokens, numbers);
            }
            due.about("round " + round);
            due.is("compile of " + Arrays.toString(tokens), Calls.compile(x, tokens), place(tokens));
        }
        due.end();
    }

    private static int place(int[] tokens) {
        if (Grammar.isQuery(tokens)) {
            return 0;
        }
        for (int length = 1; length <= tokens.length; length++) {
            if (!beginsAQuery(Arrays.copyOf(tokens, length))) {
                return length;
            }
        }
        return tokens.length + 1;
    }

    private static boolean beginsAQuery(int[] tokens) {
        int brackets = 0;
        int parens = 0;
        for (int token : tokens) {
            brackets += token == 1 ? 1 : token == 2 ? -1 : 0;
            parens += token == 3 ? 1 : token == 4 ? -1 : 0;
        }
        for (int[] beginning : BEGINNINGS) {
            List<Integer> all = new ArrayList<>();
            Arrays.stream(tokens).forEach(all::add);
            Arrays.stream(beginning).forEach(all::add);
            if (closes(all, brackets, parens)) {
                return true;
            }
        }
        return false;
    }

    /** Whether some order of closing brackets and parentheses, with comparisons behind brackets, ends a query. */
    private static boolean closes(List<Integer> tokens, int brackets, int parens) {
        if (brackets < 0 || parens < 0 || brackets > 3 || parens > 4) {
            return false;
        }
        if (brackets == 0 && parens == 0) {
            return Grammar.isQuery(tokens.stream().mapToInt(Integer::intValue).toArray());
        }
        return closes(with(tokens, 2), brackets - 1, parens)
                || closes(with(tokens, 2, 13, 2000), brackets - 1, parens)
                || closes(with(tokens, 4), brackets, parens - 1);
    }

    private static List<Integer> with(List<Integer> tokens, int... more) {
        List<Integer> all = new ArrayList<>(tokens);
        Arrays.stream(more).forEach(all::add);
        return all;
    }

    /** Each token is drawn among some, and mostly one that can stand there. */
    private static int[] freely(Numbers numbers) {
        int[] tokens = new int[0];
        int length = 1 + numbers.below(40);
        for (int i = 0; i < length; i++) {
            int[] more = Arrays.copyOf(tokens, i + 1);
            for (int tries = 0; tries < 12; tries++) {
                more[i] = SOME[numbers.below(SOME.length)];
                if (beginsAQuery(more)) {
                    break;
                }
            }
            tokens = more;
        }
        return tokens;
    }

    private static int[] spoiled(int[] tokens, Numbers numbers) {
        int at = numbers.below(tokens.length);
        int[] other = tokens.clone();
        switch (numbers.below(4)) {
            case 0:
                other[at] = SOME[numbers.below(SOME.length)];
                return other;
            case 1:
                System.arraycopy(tokens, at + 1, other, at, tokens.length - at - 1);
                return Arrays.copyOf(other, tokens.length - 1);
            case 2:
                return Arrays.copyOf(tokens, at);
            default:
                other = Arrays.copyOf(tokens, Math.min(40, tokens.length + 1));
                System.arraycopy(tokens, at, other, Math.min(at + 1, 39), Math.min(tokens.length - at, 39 - at));
                other[at] = SOME[numbers.below(SOME.length)];
                return other;
        }
    }
}
