import java.util.Arrays;

/** Promises 11 to 16 at their boundaries: a test for each sentence that names one. */
public final class QueryEdgesTest {
    private static final int REFUSED = PathQueries.REFUSED;
    private static final int FULL = PathQueries.FULL;
    private static final int MIN = Integer.MIN_VALUE;
    private static final int MAX = Integer.MAX_VALUE;
    private static final Due due = new Due();
    private static final Asked asked = new Asked(due);

    public static void main(String[] args) {
        due.run(
                QueryEdgesTest::putLeavesZerosOut,
                QueryEdgesTest::putIsFull,
                QueryEdgesTest::putAnswersHowManyArePending,
                QueryEdgesTest::compileLeavesNonePending,
                QueryEdgesTest::compileOfAQuery,
                QueryEdgesTest::compileTellsTheFirstWrongToken,
                QueryEdgesTest::compileTellsOnePlaceMore,
                QueryEdgesTest::compileKeepsTheQueryFromBefore,
                QueryEdgesTest::selectWithoutAQuery,
                QueryEdgesTest::selectAnswersTheNumber,
                QueryEdgesTest::theResultIsKept,
                QueryEdgesTest::aRefusedSelectKeepsTheResult,
                QueryEdgesTest::pickedPlaces,
                QueryEdgesTest::pickedInDocumentOrder,
                QueryEdgesTest::atFirstTheResultIsEmpty,
                QueryEdgesTest::totalIsALong,
                QueryEdgesTest::totalOfTheTimeOfTheSelect,
                QueryEdgesTest::refusedIsTestedBeforeFull,
                QueryEdgesTest::refusedCallsChangeNothing);
    }

    private static void putLeavesZerosOut() {
        due.about("Promise 11: Adds up to three tokens, those that are not 0, to the pending query, in order.");
        int[][] puts = {{21, 48, 0}, {21, 0, 48}, {0, 21, 48}};
        for (int[] put : puts) {
            PathQueries x = Calls.sample(13);
            due.is("put", x.put(put[0], put[1], put[2]), 2);
            due.is("compile", x.compile(), 0);
            due.is("select(0)", x.select(0), 3);
        }
        PathQueries x = Calls.sample(13);
        due.is("put(0, 0, 0)", x.put(0, 0, 0), 0);
        due.is("put(0, 0, 23)", x.put(0, 0, 23), 1);
        due.is("put(0, 0, 0)", x.put(0, 0, 0), 1);
        due.is("put(41, 1, 9)", x.put(41, 1, 9), 4);
        due.is("put(0, 2, 0)", x.put(0, 2, 0), 5);
        due.is("compile()", x.compile(), 0);
        due.is("select(0)", x.select(0), 1);
        due.is("picked(0)", x.picked(0), 3);
        due.is("numbers that are no tokens", x.put(MIN, -1, MAX), 3);
        due.is("compile()", x.compile(), 1);
    }

    private static void putIsFull() {
        due.about("Promise 11: If it would have more than 40: FULL, nothing changes.");
        Refusals at38 = new Refusals(due, () -> pending(38));
        at38.is("three more than 38", x -> x.put(21, 48, 21), FULL);
        Refusals at39 = new Refusals(due, () -> pending(39));
        at39.is("two more than 39", x -> x.put(0, 48, 21), FULL);
        at39.is("two more than 39", x -> x.put(48, 0, 21), FULL);
        at39.is("two more than 39", x -> x.put(48, 21, 0), FULL);
        at39.is("three more than 39", x -> x.put(48, 21, 48), FULL);
        Refusals at40 = new Refusals(due, () -> pending(40));
        at40.is("one more than 40", x -> x.put(1, 0, 0), FULL);
        at40.is("one more than 40", x -> x.put(0, 1, 0), FULL);
        at40.is("one more than 40", x -> x.put(0, 0, -1), FULL);
        at40.is("three more than 40", x -> x.put(21, 48, 1), FULL);
        due.is("three more than 37", pending(37).put(48, 21, 48), 40);
        due.is("two more than 38", pending(38).put(21, 0, 48), 40);
        due.is("one more than 39", pending(39).put(0, 0, 48), 40);
        due.is("none more than 40", pending(40).put(0, 0, 0), 40);
        PathQueries x = pending(39);
        due.is("two more than 39", x.put(48, 21, 0), FULL);
        due.is("one of them", x.put(48, 0, 0), 40);
        due.is("compile()", x.compile(), 0);
        due.is("there is room again", x.put(21, 48, 21), 3);
    }

    private static void putAnswersHowManyArePending() {
        due.about("Promise 11: Answers how many are pending.");
        PathQueries x = new PathQueries(4);
        for (int count = 1; count <= 40; count++) {
            due.is("token " + count, x.put(0, 15, 0), count);
        }
        due.is("put(0, 0, 0)", x.put(0, 0, 0), 40);
    }

    private static void compileLeavesNonePending() {
        due.about("Promise 12: Takes the pending tokens (none is pending then).");
        PathQueries x = Calls.sample(13);
        due.is("nothing pending", x.compile(), 1);
        due.is("still none", x.put(0, 0, 0), 0);
        due.is("a query", Calls.compile(x, 21, 48), 0);
        due.is("none is pending then", x.put(0, 0, 0), 0);
        due.is("nothing pending", x.compile(), 1);
        due.is("a wrong token", Calls.compile(x, 21, 48, 48, 21, 48), 3);
        due.is("none is pending then", x.put(0, 0, 0), 0);
        due.is("an end too early", Calls.compile(x, 21, 48, 1), 4);
        due.is("none is pending then", x.put(0, 0, 0), 0);
        due.is("forty tokens", Calls.compile(x, Asked.forty(tokens(20, 48), 20, 48)), 0);
        due.is("none is pending then", x.put(0, 0, 0), 0);
    }

    private static void compileOfAQuery() {
        due.about("Promise 12: If they are a QUERY it is the query from now on: 0.");
        PathQueries x = Calls.sample(13);
        due.is("the shortest", Calls.compile(x, 21, 48), 0);
        due.is("select(0)", x.select(0), 3);
        int[] notNot = Asked.forty(tokens(21, 48, 1, 7), 7);
        notNot[38] = 9;
        notNot[39] = 2;
        due.is("one of forty tokens", Calls.compile(x, notNot), 0);
        // Thirty-five times "not".
        due.is("select(0)", x.select(0), 2);
        due.is("twenty steps", Calls.compile(x, Asked.forty(tokens(21, 48), 20, 48)), 0);
        due.is("select(0)", x.select(0), 3);
        due.is("twenty steps down", Calls.compile(x, Asked.forty(tokens(21, 48), 21, 48)), 0);
        due.is("select(0)", x.select(0), 0);
        due.is("a short one behind a long one", Calls.compile(x, 20, 48), 0);
        due.is("select(0)", x.select(0), 1);
        due.is("picked(0)", x.picked(0), 0);
    }

    private static void compileTellsTheFirstWrongToken() {
        due.about("Promise 12: the place (1 for the first) of the first token that can't stand there");
        asked.place(1, 2);
        asked.place(1, 48, 48);
        asked.place(2, 21, 22, 48);
        asked.place(3, 21, 48, 2, 2);
        asked.place(4, 21, 48, 1, 2, 48);
        asked.place(40, replaced(Asked.forty(tokens(21, 48), 21, 48), 39, 21));
        asked.place(39, replaced(Asked.forty(tokens(21, 48), 21, 48), 38, 48));
        asked.place(40, replaced(Asked.forty(tokens(21, 48, 1), 7), 39, 2));
        // Only the first of two is told, and no token before it for the sake of an end that is missing.
        asked.place(2, 21, 2, 48, 2);
        asked.place(5, 21, 48, 1, 3, 2);
        asked.place(6, 21, 48, 1, 3, 9, 2);
    }

    private static void compileTellsOnePlaceMore() {
        due.about("Promise 12: or, if there is no such token, the number of tokens plus 1");
        asked.place(1);
        asked.place(2, 21);
        asked.place(4, 21, 48, 21);
        asked.place(4, 21, 48, 1);
        asked.place(5, 21, 48, 1, 9);
        asked.place(5, 21, 48, 1, 7);
        asked.place(5, 21, 48, 1, 3);
        asked.place(5, 21, 48, 1, 8);
        asked.place(6, 21, 48, 1, 10, 14);
        asked.place(7, 21, 48, 1, 10, 14, 2001);
        asked.place(5, 21, 48, 1, 11);
        asked.place(7, 21, 48, 1, 11, 21, 48);
        asked.place(8, 21, 48, 1, 11, 21, 48, 13);
        asked.place(6, 21, 48, 1, 9, 5);
        asked.place(7, 21, 48, 1, 3, 9, 4);
        asked.place(41, Asked.forty(tokens(21, 48, 1), 7));
        asked.place(41, Asked.forty(tokens(21, 48, 1), 9, 5));
        asked.place(41, Asked.forty(tokens(21, 48, 1, 9, 2, 21, 48, 1), 21, 48));
        asked.place(41, Asked.forty(tokens(21, 48, 1, 9, 2), 21, 48));
    }

    private static void compileKeepsTheQueryFromBefore() {
        due.about("Promise 12: The query from before stays then.");
        int[][] wrongs = {{}, {21}, {21, 48, 1}, {21, 48, 48}, {2}, {20, 48, 1, 9, 2, 2}, {20, 48, 1, 3, 9, 4},
            Asked.forty(tokens(20, 48, 1), 7)};
        for (int[] wrong : wrongs) {
            PathQueries x = Calls.sample(13);
            Calls.compile(x, 21, 48, 1, 21, 48, 1, 9, 5, 10, 14, 2000, 2, 2, 1, 9, 2);
            due.is("select(0)", x.select(0), 1);
            due.is("picked(0)", x.picked(0), 1);
            due.is("whether a query is refused", Calls.compile(x, wrong) == 0 ? 1 : 0, 0);
            due.is("select(0)", x.select(0), 1);
            due.is("picked(0)", x.picked(0), 1);
            due.is("select(12)", x.select(12), 0);
        }
    }

    private static void selectWithoutAQuery() {
        due.about("Promise 13: REFUSED if there is no query yet.");
        Refusals none = new Refusals(due, () -> Calls.sample(13));
        none.is("select(0) of a new object", x -> x.select(0), REFUSED);
        none.is("select(39) of a new object", x -> x.select(39), REFUSED);
        Refusals onlyPending = new Refusals(due, QueryEdgesTest::withPending);
        onlyPending.is("select(0) with tokens pending", x -> x.select(0), REFUSED);
        PathQueries x = Calls.sample(13);
        due.is("no query", Calls.compile(x, 21), 2);
        due.is("select(0)", x.select(0), REFUSED);
        due.is("nothing", x.compile(), 1);
        due.is("select(0)", x.select(0), REFUSED);
        due.is("a query", Calls.compile(x, 21, 48), 0);
        due.is("select(0)", x.select(0), 3);
    }

    private static void selectAnswersTheNumber() {
        due.about("Promise 13: The nodes that it gives are the result; answers their number.");
        PathQueries x = Calls.chain(40);
        Calls.compile(x, 23, 48);
        due.is("none", x.select(39), 0);
        due.is("picked(0)", x.picked(0), REFUSED);
        due.is("one", x.select(38), 1);
        due.is("picked(0)", x.picked(0), 39);
        due.is("thirty-nine", x.select(0), 39);
        due.is("picked(38)", x.picked(38), 39);
        Calls.compile(x, 26, 48, 25, 48);
        due.is("all, each once", x.select(39), 40);
        due.is("picked(0)", x.picked(0), 0);
        due.is("picked(39)", x.picked(39), 39);
        due.is("picked(40)", x.picked(40), REFUSED);
    }

    private static void theResultIsKept() {
        due.about("Promise 13: A result is kept, as the ids it had, until the next select that is not REFUSED.");
        PathQueries x = Calls.sample(13);
        Calls.compile(x, 23, 41);
        due.is("select(0)", x.select(0), 4);
        x.move(3, 0, 0);
        due.are("after a move", Calls.picks(x), 1, 7, 8, 3);
        x.alter(8, 2, 50);
        due.are("after another name", Calls.picks(x), 1, 7, 8, 3);
        x.remove(1);
        due.are("after a removal", Calls.picks(x), 1, 7, 8, 3);
        x.insert(0, 0, 5, 100);
        due.are("after the id came again", Calls.picks(x), 1, 7, 8, 3);
        x.remove(2);
        x.remove(3);
        due.are("after all have gone", Calls.picks(x), 1, 7, 8, 3);
        Calls.compile(x, 21, 48);
        due.are("after a compile", Calls.picks(x), 1, 7, 8, 3);
        due.is("total()", x.total(), 17);
        due.is("the next select", x.select(0), 1);
        due.are("its result", Calls.picks(x), 1);
        due.is("total()", x.total(), 100);
        due.is("a select that gives none", x.select(1), 0);
        due.are("its result", Calls.picks(x));
        due.is("total()", x.total(), 0);
    }

    private static void aRefusedSelectKeepsTheResult() {
        due.about("Promise 13: until the next select that is not REFUSED");
        Refusals refusals = new Refusals(due, QueryEdgesTest::withAResult);
        for (int id : new int[] {MIN, -1, 13, 39, 40, MAX}) {
            refusals.is("select(" + id + ")", x -> x.select(id), REFUSED);
        }
        PathQueries x = withAResult();
        x.remove(1);
        due.is("select of a node that went", x.select(1), REFUSED);
        due.are("the result from before", Calls.picks(x), 1, 7, 8, 3);
        due.is("total()", x.total(), 17);
    }

    private static void pickedPlaces() {
        due.about("Promise 14: The id at a place (0: the first) of the result; REFUSED.");
        Refusals refusals = new Refusals(due, QueryEdgesTest::withAResult);
        for (int place : new int[] {MIN, -1, 4, 5, 12, 39, 40, 41, MAX}) {
            refusals.is("picked(" + place + ")", x -> x.picked(place), REFUSED);
        }
        refusals.is("picked(0)", x -> x.picked(0), 1);
        refusals.is("picked(3)", x -> x.picked(3), 3);
        // What a longer result has left behind isn't in a shorter one.
        PathQueries x = withAResult();
        due.is("select(2)", x.select(2), 1);
        due.is("picked(0)", x.picked(0), 8);
        due.is("picked(1)", x.picked(1), REFUSED);
        due.is("select(9)", x.select(9), 0);
        due.is("picked(0)", x.picked(0), REFUSED);
    }

    private static void pickedInDocumentOrder() {
        due.about("Promise 14: in the document order at the time of the select");
        PathQueries x = Calls.sample(13);
        x.move(3, 0, 0);
        x.move(5, 1, 2);
        Calls.compile(x, 25, 48);
        due.is("select(0)", x.select(0), 13);
        due.are("picks", Calls.picks(x), 0, 3, 10, 11, 12, 1, 4, 7, 6, 5, 2, 8, 9);
        x.move(3, 0, 2);
        due.are("picks after a move", Calls.picks(x), 0, 3, 10, 11, 12, 1, 4, 7, 6, 5, 2, 8, 9);
        Calls.compile(x, 30, 48);
        due.is("select(3), a reverse axis", x.select(3), 8);
        due.are("picks", Calls.picks(x), 1, 4, 7, 6, 5, 2, 8, 9);
        Calls.compile(x, 24, 48);
        due.is("select(7), a reverse axis", x.select(7), 3);
        due.are("picks", Calls.picks(x), 0, 1, 4);
        Calls.compile(x, 21, 48, 1, 9, 2, 28, 48);
        due.is("select(0), a reverse axis behind another", x.select(0), 2);
        due.are("picks", Calls.picks(x), 1, 2);
    }

    private static void atFirstTheResultIsEmpty() {
        due.about("Promise 14: At first the result is empty.");
        for (int limit : new int[] {4, 40}) {
            PathQueries x = new PathQueries(limit);
            for (int place : new int[] {-1, 0, 1, 39}) {
                due.is("picked(" + place + ")", x.picked(place), REFUSED);
            }
            due.is("total()", x.total(), 0);
        }
        PathQueries x = Calls.sample(13);
        Calls.compile(x, 25, 48);
        due.is("picked(0) before a select", x.picked(0), REFUSED);
        due.is("total() before a select", x.total(), 0);
    }

    private static void totalIsALong() {
        due.about("Promise 15: The sum of the values (a long)");
        due.is("forty of the greatest", totalOf(MAX, MAX), 40L * MAX);
        due.is("forty of the least", totalOf(MIN, MIN), 40L * MIN);
        due.is("the least and the greatest", totalOf(MIN, MAX), 20L * MIN + 20L * MAX);
        due.is("forty of none", totalOf(0, 0), 0);
        PathQueries x = new PathQueries(4);
        x.insert(0, 0, 1, MAX);
        x.insert(0, 0, 1, 1);
        Calls.compile(x, 21, 48);
        x.select(0);
        due.is("one more than the greatest int", x.total(), 2147483648L);
        x.alter(1, 1, MIN);
        x.alter(2, 1, -1);
        x.select(0);
        due.is("one less than the least int", x.total(), -2147483649L);
        x.select(1);
        due.is("of an empty result", x.total(), 0);
    }

    private static void totalOfTheTimeOfTheSelect() {
        due.about("Promise 15: that the nodes of the result had at the time of the select");
        PathQueries x = withAResult();
        due.is("total()", x.total(), 17);
        x.alter(1, 1, 1000);
        due.is("after another value", x.total(), 17);
        x.remove(3);
        due.is("after a removal", x.total(), 17);
        x.insert(0, 0, 1, 500);
        due.is("after an insertion with an id of the result", x.total(), 17);
        Calls.compile(x, 21, 41);
        due.is("after a compile", x.total(), 17);
        due.is("select(0)", x.select(0), 2);
        due.is("then", x.total(), 1500);
        Calls.compile(x, 21, 41, 21, 48, 22, 48);
        due.is("a node that is given twice", x.select(0), 1);
        due.is("counts once", x.total(), 1000);
    }

    private static void refusedIsTestedBeforeFull() {
        due.about("Promise 16: insert: REFUSED is tested before FULL.");
        Refusals refusals = new Refusals(due, QueryEdgesTest::withAResult);
        refusals.is("nothing wrong", x -> x.insert(0, 0, 1, 1), FULL);
        refusals.is("nothing wrong, behind all", x -> x.insert(0, 3, 7, 1), FULL);
        for (int id : new int[] {MIN, -1, 13, 39, 40, MAX}) {
            refusals.is("parent " + id, x -> x.insert(id, 0, 1, 1), REFUSED);
        }
        for (int place : new int[] {MIN, -1, 4, MAX}) {
            refusals.is("place " + place + " of 3", x -> x.insert(0, place, 1, 1), REFUSED);
        }
        for (int name : new int[] {MIN, -1, 8, MAX}) {
            refusals.is("name " + name, x -> x.insert(0, 0, name, 1), REFUSED);
        }
        PathQueries x = Calls.star(40);
        due.is("forty nodes, nothing wrong", x.insert(39, 0, 1, 1), FULL);
        due.is("forty nodes, place 40 of 39", x.insert(0, 40, 1, 1), REFUSED);
        due.is("forty nodes, no parent", x.insert(40, 0, 1, 1), REFUSED);
    }

    private static void refusedCallsChangeNothing() {
        due.about("Promise 16: A call that is refused changes nothing.");
        // On a full tree of forty with all forty tokens pending every limit is reached.
        Refusals refusals = new Refusals(due, QueryEdgesTest::fullOfAll);
        refusals.is("insert", x -> x.insert(0, 0, 1, 1), FULL);
        refusals.is("insert, name 8", x -> x.insert(0, 0, 8, 1), REFUSED);
        refusals.is("insert, place 3 of 2", x -> x.insert(0, 3, 1, 1), REFUSED);
        refusals.is("insert, no parent", x -> x.insert(40, 0, 1, 1), REFUSED);
        refusals.is("remove(0)", x -> x.remove(0), REFUSED);
        refusals.is("remove(40)", x -> x.remove(40), REFUSED);
        refusals.is("move(0, 1, 0)", x -> x.move(0, 1, 0), REFUSED);
        refusals.is("move(1, 3, 0)", x -> x.move(1, 3, 0), REFUSED);
        refusals.is("move(1, 0, 2)", x -> x.move(1, 0, 2), REFUSED);
        refusals.is("move(1, 2, -1)", x -> x.move(1, 2, -1), REFUSED);
        refusals.is("move(40, 0, 0)", x -> x.move(40, 0, 0), REFUSED);
        refusals.is("move(39, 40, 0)", x -> x.move(39, 40, 0), REFUSED);
        refusals.is("alter(1, 8, 77)", x -> x.alter(1, 8, 77), REFUSED);
        refusals.is("alter(40, 1, 77)", x -> x.alter(40, 1, 77), REFUSED);
        refusals.is("parent(0)", x -> x.parent(0), REFUSED);
        refusals.is("child(0, 2)", x -> x.child(0, 2), REFUSED);
        refusals.is("put(21, 0, 0)", x -> x.put(21, 0, 0), FULL);
        refusals.is("select(40)", x -> x.select(40), REFUSED);
        refusals.is("picked(40)", x -> x.picked(40), REFUSED);
    }

    /** The sample with a query, that many tokens pending, and a result. */
    private static PathQueries pending(int count) {
        PathQueries x = withAResult();
        Calls.put(x, Arrays.copyOf(Asked.forty(tokens(25, 48), 20, 48), count));
        return x;
    }

    /** The sample, full, with a query and a result. */
    private static PathQueries withAResult() {
        PathQueries x = Calls.sample(13);
        Calls.compile(x, 23, 41);
        x.select(0);
        return x;
    }

    private static PathQueries withPending() {
        PathQueries x = Calls.sample(13);
        Calls.put(x, 21, 48);
        return x;
    }

    /** Forty nodes, two below each as long as they last, with a query, a result and forty tokens pending. */
    private static PathQueries fullOfAll() {
        PathQueries x = new PathQueries(40);
        for (int id = 1; id < 40; id++) {
            x.insert((id - 1) / 2, 0, id % 8, id);
        }
        Calls.compile(x, 25, 43);
        x.select(0);
        Calls.put(x, Asked.forty(tokens(23, 44), 20, 48));
        return x;
    }

    /** The total of forty nodes that have the one value and the other by turns. */
    private static long totalOf(int one, int other) {
        PathQueries x = new PathQueries(40);
        x.alter(0, 0, one);
        for (int id = 1; id < 40; id++) {
            x.insert(0, 0, 1, id % 2 == 0 ? one : other);
        }
        Calls.compile(x, 25, 48);
        x.select(0);
        return x.total();
    }

    private static int[] tokens(int... tokens) {
        return tokens;
    }

    private static int[] replaced(int[] tokens, int at, int other) {
        tokens[at] = other;
        return tokens;
    }
}
