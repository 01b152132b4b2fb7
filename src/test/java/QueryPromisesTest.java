/** Promises 12 to 14 in ordinary runs: queries, their meaning and their results. */
public final class QueryPromisesTest {
    private static final int REFUSED = PathQueries.REFUSED;
    private static final Due due = new Due();
    private static final Asked asked = new Asked(due);

    public static void main(String[] args) {
        due.run(
                QueryPromisesTest::exampleOfTheReadme,
                QueryPromisesTest::compileTakesThePending,
                QueryPromisesTest::compileTellsThePlace,
                QueryPromisesTest::compileKnowsEveryToken,
                QueryPromisesTest::namesAndOrder,
                QueryPromisesTest::positions,
                QueryPromisesTest::chainsOfPredicates,
                QueryPromisesTest::logic,
                QueryPromisesTest::pathsAndCounts,
                QueryPromisesTest::longPaths,
                QueryPromisesTest::nestedPredicates,
                QueryPromisesTest::resultIsKept,
                QueryPromisesTest::oneObjectManyQueries,
                QueryPromisesTest::heavyQueriesEnd);
    }

    private static void exampleOfTheReadme() {
        due.about("the example of README.md");
        PathQueries x = new PathQueries(40);
        due.is("insert(0, 0, 1, 5)", x.insert(0, 0, 1, 5), 1);
        due.is("insert(0, 1, 2, 6)", x.insert(0, 1, 2, 6), 2);
        due.is("insert(1, 0, 2, 9)", x.insert(1, 0, 2, 9), 3);
        due.is("put(23, 42, 1)", x.put(23, 42, 1), 3);
        due.is("put(10, 14, 2007)", x.put(10, 14, 2007), 6);
        due.is("put(2, 0, 0)", x.put(2, 0, 0), 7);
        due.is("compile()", x.compile(), 0);
        due.is("select(0)", x.select(0), 1);
        due.is("picked(0)", x.picked(0), 3);
        due.is("total()", x.total(), 9);
        due.is("put(21, 48, 2)", x.put(21, 48, 2), 3);
        due.is("compile()", x.compile(), 3);
        due.is("move(3, 0, 0)", x.move(3, 0, 0), 1);
        due.is("remove(0)", x.remove(0), REFUSED);
    }

    private static void compileTakesThePending() {
        due.about("promise 12, compile takes the pending tokens");
        PathQueries x = Calls.sample(40);
        due.is("nothing pending", x.compile(), 1);
        due.is("a query", Calls.compile(x, 21, 41), 0);
        due.is("none is pending then", x.put(0, 0, 0), 0);
        due.is("select(0)", x.select(0), 2);
        due.is("no query", Calls.compile(x, 21, 48, 1), 4);
        due.is("none is pending then", x.put(0, 0, 0), 0);
        due.is("the query from before", x.select(0), 2);
        due.is("nothing pending", x.compile(), 1);
        due.is("the query from before", x.select(0), 2);
        due.is("a shorter query behind a longer one", Calls.compile(x, 23, 48, 1, 9, 2, 22, 48), 0);
        due.is("select(0)", x.select(0), 1);
        due.is("compile", Calls.compile(x, 23, 48), 0);
        due.is("select(0)", x.select(0), 12);
        due.is("forty tokens", Calls.compile(x, Asked.forty(tokens(20, 48), 20, 48)), 0);
        due.is("select(5)", x.select(5), 1);
    }

    private static void compileTellsThePlace() {
        due.about("promise 12, the place");
        place(0, 21, 48);
        place(0, 21, 48, 22, 40);
        place(0, 21, 48, 1, 9, 2, 1, 9, 2, 21, 47, 1, 9, 2);
        place(1, 48);
        place(1, 1);
        place(2, 21);
        place(2, 21, 21);
        place(2, 21, 1);
        place(3, 21, 48, 48);
        place(3, 21, 48, 2);
        place(3, 21, 48, 4);
        place(3, 21, 48, 5, 21, 48);
        place(3, 21, 48, 6);
        place(3, 21, 48, 7);
        place(3, 21, 48, 9);
        place(3, 21, 48, 13, 2001);
        place(3, 21, 48, 2001);
        place(4, 21, 48, 1);
        place(4, 21, 48, 1, 2);
        place(4, 21, 48, 1, 1);
        place(4, 21, 48, 1, 4);
        place(4, 21, 48, 1, 5);
        place(4, 21, 48, 1, 13);
        place(4, 21, 48, 1, 48);
        place(4, 21, 48, 1, 2001);
        place(5, 21, 48, 1, 8, 2001);
        place(5, 21, 48, 1, 10, 9);
        place(6, 21, 48, 1, 8, 13);
        place(6, 21, 48, 1, 8, 13, 13);
        place(6, 21, 48, 1, 10, 13, 10);
        place(7, 21, 48, 1, 8, 13, 2001);
        place(7, 21, 48, 1, 8, 13, 2001, 13);
        place(7, 21, 48, 1, 8, 13, 2001, 21);
        place(5, 21, 48, 1, 9, 13, 2001);
        place(5, 21, 48, 1, 9, 21);
        place(5, 21, 48, 1, 9, 1);
        place(5, 21, 48, 1, 9, 7);
        place(5, 21, 48, 1, 9, 4);
        place(6, 21, 48, 1, 9, 5, 2);
        place(6, 21, 48, 1, 9, 6, 5);
        place(0, 21, 48, 1, 9, 6, 7, 9, 2);
        place(0, 21, 48, 1, 7, 7, 9, 2);
        place(5, 21, 48, 1, 7, 5);
        place(5, 21, 48, 1, 3, 4);
        place(6, 21, 48, 1, 3, 9, 2);
        place(6, 21, 48, 1, 3, 9);
        place(7, 21, 48, 1, 3, 9, 4);
        place(0, 21, 48, 1, 3, 9, 4, 2);
        place(7, 21, 48, 1, 3, 9, 4, 4);
        place(7, 21, 48, 1, 3, 9, 4, 3);
        place(5, 21, 48, 1, 11, 11);
        place(5, 21, 48, 1, 11, 3);
        place(7, 21, 48, 1, 11, 21, 48, 2);
        place(7, 21, 48, 1, 11, 21, 48, 5);
        place(7, 21, 48, 1, 3, 21, 48, 14);
        place(8, 21, 48, 1, 3, 11, 21, 48, 4);
        place(6, 21, 48, 1, 21, 48, 13, 2001);
        place(0, 21, 48, 1, 11, 21, 48, 22, 48, 12, 2001, 2);
        // A path behind count still has its comparison before it when one of its predicates has ended.
        place(10, 21, 48, 1, 11, 21, 48, 1, 9, 2, 2);
        place(0, 21, 48, 1, 11, 21, 48, 1, 9, 2, 13, 2001, 2);
        place(0, 21, 48, 1, 11, 21, 48, 1, 21, 48, 2, 13, 2001, 2);
        place(0, 21, 48, 1, 11, 21, 48, 13, 2001, 5, 21, 48, 2);
        place(12, 21, 48, 1, 11, 21, 48, 13, 2001, 5, 21, 48, 13);
        place(9, 21, 48, 1, 21, 48, 1, 9, 2, 13);
        place(10, 21, 48, 1, 21, 48, 1, 11, 22, 48, 2);
        // A parenthesis is closed in the bracket that it was opened in.
        place(8, 21, 48, 1, 3, 21, 48, 1, 4);
        place(9, 21, 48, 1, 3, 21, 48, 1, 9, 4);
        place(0, 21, 48, 1, 3, 21, 48, 1, 9, 2, 4, 2);
        place(10, 21, 48, 1, 3, 21, 48, 1, 9, 2, 2);
        place(41, Asked.forty(tokens(21, 48, 1), 7));
    }

    private static void compileKnowsEveryToken() {
        due.about("promise 12, every token where it may stand");
        for (int token = -60; token <= 60; token++) {
            if (token != 0) {
                place(token >= 20 && token <= 30 ? 0 : 1, token, 48);
                place(token >= 40 && token <= 48 ? 0 : 2, 21, token);
                place(token >= 12 && token <= 14 ? 0 : 5, 21, 48, 1, 8, token, 2001, 2);
                place(token == 5 || token == 6 ? 0 : token == 2 ? 6 : 5, 21, 48, 1, 9, token, 9, 2);
                place(token == 9 ? 0 : placeOfOperand(token), 21, 48, 1, token, 2);
            }
        }
        for (int number : new int[] {1000, 1001, 1999, 2000, 2001, 2999, 3000}) {
            place(0, 21, 48, 1, 10, 14, number, 2);
        }
        for (int number : new int[] {Integer.MIN_VALUE, -2000, 48, 999, 3001, 4000, Integer.MAX_VALUE}) {
            place(6, 21, 48, 1, 10, 14, number, 2);
        }
    }

    /** Where "[ token ]" goes wrong: behind a token that may begin an operand it is the bracket. */
    private static int placeOfOperand(int token) {
        boolean begins = token == 3 || token == 7 || token == 8 || token == 10 || token == 11 || token >= 20 && token <= 30;
        return begins ? 5 : 4;
    }

    private static void namesAndOrder() {
        due.about("names and document order");
        gives(0, ids(1, 7, 8, 3), 23, 41);
        gives(0, ids(0), 25, 40);
        gives(0, ids(), 23, 47);
        gives(12, ids(3), 24, 41);
        // The result is in document order on reverse axes too.
        gives(12, ids(4, 6, 2, 9, 11), 30, 42);
        gives(7, ids(0, 1, 4, 7), 26, 48);
    }

    private static void positions() {
        due.about("position and last");
        gives(0, ids(4), 23, 48, 1, 8, 13, 2002, 2);
        gives(0, ids(1, 4), 23, 48, 1, 8, 12, 2003, 2);
        gives(0, ids(11, 12), 23, 48, 1, 8, 14, 2010, 2);
        gives(0, ids(), 23, 48, 1, 8, 13, 2000, 2);
        gives(0, ids(), 23, 48, 1, 8, 12, 1000, 2);
        gives(0, ids(12), 23, 48, 1, 9, 2);
        gives(0, ids(7), 23, 41, 1, 8, 13, 2002, 2);
        // On the reverse axes the nearest node is the first.
        gives(7, ids(4), 22, 48, 1, 8, 13, 2001, 2);
        gives(7, ids(4), 24, 48, 1, 8, 13, 2001, 2);
        gives(7, ids(0), 24, 48, 1, 9, 2);
        gives(7, ids(7), 26, 48, 1, 8, 13, 2001, 2);
        gives(6, ids(5), 28, 48, 1, 8, 13, 2001, 2);
        gives(6, ids(4), 28, 48, 1, 9, 2);
        gives(3, ids(9), 30, 48, 1, 8, 13, 2001, 2);
        gives(3, ids(1), 30, 48, 1, 9, 2);
        gives(4, ids(5), 27, 48, 1, 8, 13, 2001, 2);
        gives(4, ids(5), 29, 48, 1, 8, 13, 2001, 2);
        gives(4, ids(12), 29, 48, 1, 9, 2);
        // Each node from which a step is taken has a list of its own.
        gives(0, ids(4, 8, 10), 21, 48, 21, 48, 1, 8, 13, 2001, 2);
        gives(0, ids(6, 8, 10), 21, 48, 21, 48, 1, 9, 2);
    }

    private static void chainsOfPredicates() {
        due.about("predicates from left to right");
        // Of the nodes with a value over 5 (2, 3, 7, 11, 12 in the tree's order 7, 2, 3, 11, 12) the second.
        gives(0, ids(2), 23, 48, 1, 10, 14, 2005, 2, 1, 8, 13, 2002, 2);
        gives(0, ids(), 23, 48, 1, 8, 13, 2002, 2, 1, 10, 14, 2005, 2);
        gives(0, ids(12), 23, 48, 1, 10, 14, 2005, 2, 1, 9, 2);
        gives(0, ids(4), 23, 48, 1, 8, 14, 2001, 2, 1, 8, 13, 2001, 2);
        gives(12, ids(3), 24, 48, 1, 8, 14, 2001, 2, 1, 8, 13, 2001, 2);
        gives(12, ids(0), 24, 48, 1, 8, 14, 2001, 2, 1, 9, 2);
        gives(0, ids(), 23, 48, 1, 8, 14, 2100, 2, 1, 9, 2);
    }

    private static void logic() {
        due.about("and, or, not and parentheses");
        int[] one = {10, 13, 2001};
        int[] two = {10, 13, 2002};
        int[] small = {10, 12, 2003};
        gives(1, ids(4, 5), Asked.joined(tokens(21, 48, 1), one, tokens(6), two, tokens(2)));
        gives(1, ids(), Asked.joined(tokens(21, 48, 1), one, tokens(5), two, tokens(2)));
        gives(1, ids(5), Asked.joined(tokens(21, 48, 1), small, tokens(5), two, tokens(2)));
        gives(1, ids(6), Asked.joined(tokens(21, 48, 1, 7), small, tokens(2)));
        gives(1, ids(4, 5), Asked.joined(tokens(21, 48, 1, 7, 7), small, tokens(2)));
        gives(1, ids(6), Asked.joined(tokens(21, 48, 1, 7, 7, 7), small, tokens(2)));
        // and binds before or, not before and.
        gives(1, ids(4), Asked.joined(tokens(21, 48, 1), one, tokens(6), two, tokens(5, 9, 2)));
        gives(1, ids(), Asked.joined(tokens(21, 48, 1, 3), one, tokens(6), two, tokens(4, 5, 9, 2)));
        gives(1, ids(6), Asked.joined(tokens(21, 48, 1, 9, 5), two, tokens(6, 9, 2)));
        gives(1, ids(5), Asked.joined(tokens(21, 48, 1, 7), one, tokens(5), small, tokens(2)));
        gives(1, ids(5, 6), Asked.joined(tokens(21, 48, 1, 7, 3), one, tokens(5), small, tokens(4, 2)));
        gives(1, ids(5), Asked.joined(tokens(21, 48, 1, 7, 3), one, tokens(6, 9, 4, 2)));
        gives(1, ids(4, 6), Asked.joined(tokens(21, 48, 1, 7, 3, 7, 3), one, tokens(6, 9, 4, 4, 2)));
        gives(1, ids(4, 5, 6), Asked.joined(tokens(21, 48, 1, 3), one, tokens(4, 6, 3), two, tokens(6, 9, 4, 2)));
        gives(1, ids(5), Asked.joined(tokens(21, 48, 1, 3, 3, 3, 3), two, tokens(4, 4, 4, 4, 2)));
        gives(1, ids(), Asked.joined(tokens(20, 48, 1, 7, 9, 2)));
    }

    private static void pathsAndCounts() {
        due.about("paths and counts");
        gives(0, ids(1, 4, 2, 8, 3, 10), 23, 48, 1, 21, 48, 2);
        gives(0, ids(7, 5, 6, 9, 11, 12), 23, 48, 1, 7, 21, 48, 2);
        gives(0, ids(1, 3), 23, 48, 1, 21, 42, 21, 48, 2);
        gives(0, ids(1, 10), 23, 48, 1, 21, 48, 5, 21, 43, 2);
        gives(0, ids(1, 4, 2, 3), 21, 48, 25, 48, 1, 21, 41, 6, 22, 40, 5, 7, 20, 42, 2);
        gives(0, ids(0, 1), 25, 48, 1, 11, 21, 48, 13, 2003, 2);
        gives(0, ids(10), 25, 48, 1, 11, 21, 48, 13, 2002, 2);
        gives(0, ids(7, 5, 6, 9, 11, 12), 25, 48, 1, 11, 21, 48, 12, 2001, 2);
        gives(0, ids(0, 1, 10), 25, 48, 1, 11, 21, 48, 14, 2001, 2);
        // Different nodes: the three children of 1 have one parent.
        gives(0, ids(1, 4, 2, 8, 3, 10, 0), 25, 48, 1, 11, 21, 48, 22, 48, 13, 2001, 2);
        gives(0, ids(), 25, 48, 1, 11, 23, 48, 26, 48, 14, 2013, 2);
        gives(0, ids(0), 25, 48, 1, 11, 23, 48, 26, 48, 13, 2013, 2);
        gives(0, ids(4, 5), 23, 48, 1, 11, 27, 48, 14, 2000, 5, 22, 41, 2);
        gives(0, ids(0), 25, 48, 1, 11, 23, 48, 14, 2005, 2);
        gives(0, ids(7, 5, 6, 9, 11, 12), 25, 48, 1, 7, 11, 23, 48, 14, 2000, 2);
    }

    private static void longPaths() {
        due.about("paths of more steps");
        gives(0, ids(4, 6, 10), 21, 41, 21, 42);
        gives(0, ids(0), 23, 48, 24, 48, 1, 9, 2);
        gives(0, ids(0, 1, 4, 2, 8, 3, 10), 23, 48, 22, 48);
        gives(5, ids(0, 1, 2, 3), 22, 48, 22, 48, 25, 48, 1, 22, 40, 6, 20, 40, 2);
        gives(7, ids(12), 29, 48, 1, 9, 2, 20, 48);
        gives(4, ids(5, 6), 27, 48, 20, 48);
        gives(0, ids(), 21, 47, 25, 48);
    }

    private static void nestedPredicates() {
        due.about("nested predicates");
        gives(0, ids(1), 21, 48, 1, 21, 48, 1, 21, 48, 1, 10, 14, 2008, 2, 2, 5, 8, 13, 2001, 2);
        // An inner position counts in the inner list, an outer one in the outer list.
        gives(0, ids(3), 21, 48, 1, 9, 5, 21, 48, 1, 8, 13, 2001, 2, 2);
        gives(0, ids(1), 21, 48, 1, 21, 48, 1, 8, 13, 2002, 2, 2);
        gives(0, ids(1), 21, 48, 1, 11, 21, 48, 1, 8, 14, 2001, 2, 13, 2002, 2);
        gives(0, ids(1, 3), 21, 48, 1, 3, 21, 48, 1, 3, 21, 48, 1, 10, 14, 2005, 2, 4, 2, 4, 2);
        // An inner reverse list leaves the order of the outer one as it is.
        gives(0, ids(2), 21, 48, 1, 28, 48, 1, 8, 13, 2001, 2, 5, 8, 13, 2002, 2);
        gives(0, ids(3), 21, 48, 1, 28, 48, 1, 9, 5, 20, 41, 2, 5, 9, 2);
    }

    private static void resultIsKept() {
        due.about("promises 13 and 14, the result is kept");
        PathQueries x = Calls.sample(40);
        due.are("at first", Calls.picks(x));
        Calls.compile(x, 23, 41);
        due.is("select(0)", x.select(0), 4);
        due.are("the result", Calls.picks(x), 1, 7, 8, 3);
        x.move(3, 0, 0);
        due.are("after a move", Calls.picks(x), 1, 7, 8, 3);
        x.remove(1);
        due.are("after a removal", Calls.picks(x), 1, 7, 8, 3);
        x.insert(0, 0, 1, 100);
        due.are("after an insertion", Calls.picks(x), 1, 7, 8, 3);
        Calls.compile(x, 21, 48);
        due.are("after a compile", Calls.picks(x), 1, 7, 8, 3);
        due.is("total()", x.total(), 17);
        due.is("picked(-1)", x.picked(-1), REFUSED);
        due.is("picked(4)", x.picked(4), REFUSED);
        due.is("picked(40)", x.picked(40), REFUSED);
        due.is("the greatest place", x.picked(Integer.MAX_VALUE), REFUSED);
        due.is("the least place", x.picked(Integer.MIN_VALUE), REFUSED);
        due.is("select(0)", x.select(0), 3);
        due.are("the next result", Calls.picks(x), 1, 3, 2);
        due.is("select(1)", x.select(1), 0);
        due.are("an empty result", Calls.picks(x));
        due.is("total()", x.total(), 0);
        Calls.compile(x, 23, 41);
        due.is("select(0)", x.select(0), 3);
        due.are("the tree as it is now", Calls.picks(x), 1, 3, 8);
    }

    private static void oneObjectManyQueries() {
        due.about("a query leaves nothing behind for the next one");
        PathQueries x = Calls.sample(40);
        Calls.compile(x, 21, 48, 1, 21, 48, 1, 10, 12, 2002, 2, 2, 1, 7, 3, 9, 4, 2);
        due.is("select(0)", x.select(0), 2);
        Calls.compile(x, 23, 48, 1, 8, 14, 2001, 2, 1, 9, 6, 10, 13, 2009, 2, 1, 9, 2);
        due.is("select(0)", x.select(0), 1);
        due.is("picked(0)", x.picked(0), 12);
        Calls.compile(x, 20, 48, 21, 41, 1, 9, 2, 21, 48);
        due.is("select(0)", x.select(0), 1);
        due.is("picked(0)", x.picked(0), 10);
        Calls.compile(x, 21, 42, 1, 7, 21, 48, 1, 9, 5, 10, 14, 2000, 2, 2);
        due.is("select(0)", x.select(0), 1);
        due.is("picked(0)", x.picked(0), 2);
    }

    private static void heavyQueriesEnd() {
        due.about("rule 7, a heavy query ends");
        PathQueries x = new PathQueries(40);
        for (int i = 1; i < 40; i++) {
            x.insert(i / 2, 0, 1, i);
        }
        int[] inner = tokens(25, 48, 26, 48, 25, 48, 1);
        int[] deep = Asked.joined(inner, inner, inner, tokens(25, 48, 29, 48, 30, 48, 2, 2, 2));
        due.is("compile", Calls.compile(x, deep), 0);
        due.is("select(0)", x.select(0), 40);
        due.is("picked(40)", x.picked(40), REFUSED);
    }

    private static void place(int expected, int... tokens) {
        asked.place(expected, tokens);
    }

    private static void gives(int from, long[] ids, int... tokens) {
        asked.gives(from, ids, tokens);
    }

    private static long[] ids(long... ids) {
        return ids;
    }

    private static int[] tokens(int... tokens) {
        return tokens;
    }
}
