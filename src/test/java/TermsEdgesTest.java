import java.util.function.Supplier;

/** The section "Terms" at its boundaries: a test for each sentence that names one. */
public final class TermsEdgesTest {
    private static final int REFUSED = PathQueries.REFUSED;
    private static final int FULL = PathQueries.FULL;
    private static final int MIN = Integer.MIN_VALUE;
    private static final int MAX = Integer.MAX_VALUE;
    private static final int AXES = 11;
    private static final long[] NONE = {};
    private static final Due due = new Due();
    private static final Asked asked = new Asked(due);

    public static void main(String[] args) {
        due.run(
                TermsEdgesTest::lastOf512Calls,
                TermsEdgesTest::idsRunFrom0To39,
                TermsEdgesTest::theRootIsAlwaysThere,
                TermsEdgesTest::theRootAtFirst,
                TermsEdgesTest::namesRunFrom0To7,
                TermsEdgesTest::valuesAreInts,
                TermsEdgesTest::childrenAreOrdered,
                TermsEdgesTest::documentOrder,
                TermsEdgesTest::atMostFortyNodes,
                TermsEdgesTest::axesOfTheRoot,
                TermsEdgesTest::axesOfLeaves,
                TermsEdgesTest::axesOfFirstAndLastChildren,
                TermsEdgesTest::orderOfTheAxes,
                TermsEdgesTest::axisTokens,
                TermsEdgesTest::nameTokens,
                TermsEdgesTest::numberTokens,
                TermsEdgesTest::otherTokens,
                TermsEdgesTest::aPathGoesOn,
                TermsEdgesTest::openBrackets,
                TermsEdgesTest::openParentheses,
                TermsEdgesTest::namesInAStep,
                TermsEdgesTest::predicatesInARow,
                TermsEdgesTest::positions,
                TermsEdgesTest::last,
                TermsEdgesTest::values,
                TermsEdgesTest::pathsInPredicates,
                TermsEdgesTest::counts,
                TermsEdgesTest::pathsOfMoreSteps,
                TermsEdgesTest::idsOfNoNode);
    }

    private static void lastOf512Calls() {
        due.about("An object is used for at most 512 calls after it has been made");
        PathQueries x = new PathQueries(40);
        for (int call = 1; call < 511; call += 2) {
            due.is("call " + call + ", insert", x.insert(0, 0, 1, call), 1);
            due.is("call " + (call + 1) + ", remove", x.remove(1), 1);
        }
        due.is("call 511, insert", x.insert(0, 0, 1, 511), 1);
        due.is("call 512, value", x.value(1), 511);
    }

    private static void idsRunFrom0To39() {
        due.about("Nodes have ids 0 .. 39");
        PathQueries x = Calls.star(40);
        for (int id = 0; id < 40; id++) {
            due.is("rank(" + id + ")", x.rank(id), id);
        }
        due.is("rank(-1)", x.rank(-1), REFUSED);
        due.is("rank(40)", x.rank(40), REFUSED);
        due.is("the fortieth node is altered", x.alter(39, 5, -3), 7);
        due.is("the fortieth node has its value", x.value(39), -3);
        due.is("the fortieth node moves", x.move(39, 1, 0), 2);
        due.is("the fortieth node goes", x.remove(39), 1);
        due.is("and comes again", x.insert(38, 0, 1, 1), 39);
    }

    private static void theRootIsAlwaysThere() {
        due.about("node 0 is the root, always there");
        PathQueries x = Calls.sample(13);
        due.is("remove(0)", x.remove(0), REFUSED);
        due.is("move(0, 1, 0)", x.move(0, 1, 0), REFUSED);
        due.is("remove(1)", x.remove(1), 5);
        due.is("remove(2)", x.remove(2), 3);
        due.is("remove(3)", x.remove(3), 4);
        due.is("remove(0) of the root alone", x.remove(0), REFUSED);
        due.is("size(0)", x.size(0), 1);
        due.is("rank(0)", x.rank(0), 0);
        due.is("parent(0)", x.parent(0), REFUSED);
        due.is("a new node never has its id", x.insert(0, 0, 1, 1), 1);
    }

    private static void theRootAtFirst() {
        due.about("at first with name 0, value 0 and no children");
        for (int limit : new int[] {MIN, 4, 40, MAX}) {
            PathQueries x = new PathQueries(limit);
            due.is("size(0)", x.size(0), 1);
            due.is("child(0, 0)", x.child(0, 0), REFUSED);
            due.is("value(0)", x.value(0), 0);
            due.is("the name", x.alter(0, 7, 1), 0);
        }
    }

    private static void namesRunFrom0To7() {
        due.about("Every node has a name 0 .. 7");
        PathQueries x = new PathQueries(40);
        for (int name = 0; name < 8; name++) {
            due.is("insert with name " + name, x.insert(0, name, name, 0), name + 1);
        }
        for (int name = 0; name < 8; name++) {
            due.is("a query for name " + name, Calls.compile(x, 21, 40 + name), 0);
            due.is("select(0)", x.select(0), 1);
            due.is("picked(0)", x.picked(0), name + 1);
        }
        due.is("insert with name -1", x.insert(0, 0, -1, 0), REFUSED);
        due.is("insert with name 8", x.insert(0, 0, 8, 0), REFUSED);
    }

    private static void valuesAreInts() {
        due.about("an int value");
        PathQueries x = new PathQueries(4);
        due.is("insert of the least", x.insert(0, 0, 1, MIN), 1);
        due.is("insert of the greatest", x.insert(0, 1, 1, MAX), 2);
        due.is("value(1)", x.value(1), MIN);
        due.is("value(2)", x.value(2), MAX);
        due.is("alter", x.alter(1, 1, MAX), 1);
        due.is("alter", x.alter(2, 1, MIN), 1);
        due.is("value(1)", x.value(1), MAX);
        due.is("value(2)", x.value(2), MIN);
    }

    private static void childrenAreOrdered() {
        due.about("an ordered list of children");
        PathQueries x = new PathQueries(40);
        for (int id = 1; id < 40; id++) {
            x.insert(0, 0, 1, id);
        }
        for (int place = 0; place < 39; place++) {
            due.is("child " + place + " of 39, each put in front", x.child(0, place), 39 - place);
        }
        due.is("child 39 of 39", x.child(0, 39), REFUSED);
    }

    private static void documentOrder() {
        due.about("DOCUMENT ORDER: a node stands before its children's subtrees, and the subtree of a child before those of "
                + "the children after it");
        PathQueries chain = Calls.chain(40);
        PathQueries star = Calls.star(40);
        for (int id = 0; id < 40; id++) {
            due.is("rank(" + id + ") of a chain", chain.rank(id), id);
            due.is("rank(" + id + ") of a star", star.rank(id), id);
        }
        PathQueries x = new PathQueries(40);
        x.insert(0, 0, 1, 0);
        x.insert(0, 0, 1, 0);
        x.insert(1, 0, 1, 0);
        x.insert(2, 0, 1, 0);
        x.insert(4, 0, 1, 0);
        x.insert(0, 1, 1, 0);
        asked.gives(() -> x, 0, ids(0, 2, 4, 5, 6, 1, 3), 25, 48);
        due.are("as it is picked", Calls.picks(x), 0, 2, 4, 5, 6, 1, 3);
    }

    private static void atMostFortyNodes() {
        due.about("At most 40 nodes.");
        for (int limit : new int[] {40, 41, MAX}) {
            PathQueries x = new PathQueries(limit);
            for (int id = 1; id < 40; id++) {
                due.is("node " + (id + 1), x.insert(id / 2, 0, 1, 0), id);
            }
            due.is("node 41", x.insert(0, 0, 1, 0), FULL);
            due.is("size(0)", x.size(0), 40);
        }
    }

    private static void axesOfTheRoot() {
        due.about("AXES of the root");
        Supplier<PathQueries> alone = () -> new PathQueries(40);
        long[] root = {0};
        axes(alone, 0, root, NONE, NONE, NONE, NONE, root, root, NONE, NONE, NONE, NONE);
        long[] below = {1, 4, 7, 5, 6, 2, 8, 9, 3, 10, 11, 12};
        long[] all = {0, 1, 4, 7, 5, 6, 2, 8, 9, 3, 10, 11, 12};
        axes(sample(), 0, root, ids(1, 2, 3), NONE, below, NONE, all, root, NONE, NONE, NONE, NONE);
    }

    private static void axesOfLeaves() {
        due.about("AXES of leaves");
        long[] behind7 = {5, 6, 2, 8, 9, 3, 10, 11, 12};
        axes(sample(), 7, ids(7), NONE, ids(4), NONE, ids(0, 1, 4), ids(7), ids(0, 1, 4, 7),
                NONE, NONE, behind7, NONE);
        long[] behind5 = {6, 2, 8, 9, 3, 10, 11, 12};
        axes(sample(), 5, ids(5), NONE, ids(1), NONE, ids(0, 1), ids(5), ids(0, 1, 5),
                ids(6), ids(4), behind5, ids(4, 7));
        long[] before12 = {1, 4, 7, 5, 6, 2, 8, 9, 11};
        axes(sample(), 12, ids(12), NONE, ids(10), NONE, ids(0, 3, 10), ids(12),
                ids(0, 3, 10, 12), NONE, ids(11), NONE, before12);
    }

    private static void axesOfFirstAndLastChildren() {
        due.about("AXES of a first child");
        long[] behind1 = {2, 8, 9, 3, 10, 11, 12};
        axes(sample(), 1, ids(1), ids(4, 5, 6), ids(0), ids(4, 7, 5, 6), ids(0),
                ids(1, 4, 7, 5, 6), ids(0, 1), ids(2, 3), NONE, behind1, NONE);
        long[] behind4 = {5, 6, 2, 8, 9, 3, 10, 11, 12};
        axes(sample(), 4, ids(4), ids(7), ids(1), ids(7), ids(0, 1), ids(4, 7),
                ids(0, 1, 4), ids(5, 6), NONE, behind4, NONE);
        due.about("AXES of a child between others");
        axes(sample(), 2, ids(2), ids(8), ids(0), ids(8, 9), ids(0), ids(2, 8, 9),
                ids(0, 2), ids(3), ids(1), ids(3, 10, 11, 12), ids(1, 4, 7, 5, 6));
        due.about("AXES of a last child");
        axes(sample(), 3, ids(3), ids(10), ids(0), ids(10, 11, 12), ids(0),
                ids(3, 10, 11, 12), ids(0, 3), NONE, ids(1, 2), NONE, ids(1, 4, 7, 5, 6, 2, 8, 9));
        due.about("AXES of an only child");
        axes(sample(), 8, ids(8), ids(9), ids(2), ids(9), ids(0, 2), ids(8, 9),
                ids(0, 2, 8), NONE, NONE, ids(3, 10, 11, 12), ids(1, 4, 7, 5, 6));
    }

    private static void orderOfTheAxes() {
        due.about("The nodes of an axis are taken in document order, those of a reverse axis in reverse document order.");
        ends(0, 5, 5, 5);
        ends(1, 1, 4, 6);
        ends(2, 7, 4, 4);
        ends(3, 0, 1, 12);
        ends(4, 7, 4, 0);
        ends(5, 1, 1, 6);
        ends(6, 7, 7, 0);
        ends(7, 1, 2, 3);
        ends(8, 3, 2, 1);
        ends(9, 1, 2, 12);
        ends(10, 3, 9, 1);
        // On a list of one node both ends are the same, on an empty one there is neither.
        ends(7, 2, 3, 3);
        ends(8, 2, 1, 1);
        asked.gives(0, NONE, 30, 48, 1, 9, 2);
        asked.gives(0, NONE, 29, 48, 1, 8, 13, 2001, 2);
    }

    private static void axisTokens() {
        due.about("20 .. 30 the axis token minus 20");
        for (int token = 20; token <= 30; token++) {
            asked.place(0, token, 48);
        }
        for (int token : new int[] {MIN, -20, 1, 19, 31, 48, 1000, 2020, MAX}) {
            asked.place(1, token, 48);
            asked.place(3, 21, 48, token == 1 ? 2 : token, 48);
        }
        // Self and preceding are the axes at both ends.
        asked.gives(2, ids(2), 20, 48);
        asked.gives(2, ids(1, 4, 7, 5, 6), 30, 48);
    }

    private static void nameTokens() {
        due.about("40 .. 47 the name token minus 40;  48 any name");
        for (int token = 40; token <= 48; token++) {
            asked.place(0, 21, token);
        }
        for (int token : new int[] {MIN, -40, 7, 30, 39, 49, 1000, 2040, MAX}) {
            asked.place(2, 21, token);
        }
        Supplier<PathQueries> two = () -> {
            PathQueries x = new PathQueries(4);
            x.insert(0, 0, 0, 1);
            x.insert(0, 1, 7, 2);
            return x;
        };
        asked.gives(two, 0, ids(1), 21, 40);
        asked.gives(two, 0, ids(2), 21, 47);
        asked.gives(two, 0, ids(1, 2), 21, 48);
    }

    private static void numberTokens() {
        due.about("1000 .. 3000 the NUMBER token minus 2000");
        int[] right = {1000, 1001, 1999, 2000, 2001, 2999, 3000};
        int[] wrong = {MIN, -1000, 13, 48, 999, 3001, MAX};
        for (int operand : new int[] {8, 10}) {
            for (int token : right) {
                asked.place(0, 21, 48, 1, operand, 13, token, 2);
            }
            for (int token : wrong) {
                asked.place(6, 21, 48, 1, operand, 13, token, 2);
            }
        }
        for (int token : right) {
            asked.place(0, 21, 48, 1, 11, 21, 48, 13, token, 2);
        }
        for (int token : wrong) {
            asked.place(8, 21, 48, 1, 11, 21, 48, 13, token, 2);
        }
        asked.gives(fourValues(-1000, 1000, 0), 0, ids(1), 21, 48, 1, 10, 13, 1000, 2);
        asked.gives(fourValues(-1000, 1000, 0), 0, ids(2), 21, 48, 1, 10, 13, 3000, 2);
        asked.gives(fourValues(-1000, 1000, 0), 0, ids(3), 21, 48, 1, 10, 13, 2000, 2);
    }

    private static void otherTokens() {
        due.about("TOKENS of a query: 1 [ .. 14 >");
        // Each of the fourteen stands somewhere; what is next to them is no token, wherever it stands.
        asked.place(0, 21, 48, 1, 3, 7, 8, 12, 2001, 4, 5, 9, 6, 10, 14, 2001, 2, 1, 11, 21, 48, 13, 2001, 2);
        for (int token : new int[] {MIN, -14, -1, 15, 16, 19, 31, 39, 49, MAX}) {
            asked.place(1, token);
            asked.place(2, 21, token);
            asked.place(3, 21, 48, token);
            asked.place(4, 21, 48, 1, token);
            asked.place(5, 21, 48, 1, 8, token);
            asked.place(6, 21, 48, 1, 8, 13, token);
            asked.place(7, 21, 48, 1, 8, 13, 2001, token);
            asked.place(5, 21, 48, 1, 9, token);
            asked.place(5, 21, 48, 1, 11, token);
            asked.place(7, 21, 48, 1, 11, 21, 48, token);
        }
    }

    private static void aPathGoesOn() {
        due.about("a PATH goes on as long as an axis token follows");
        // The children that have grandchildren: were the second step not of the path, all three would be given.
        asked.gives(0, ids(1, 2, 3), 21, 48, 1, 21, 48, 21, 48, 2);
        asked.gives(1, ids(4), 21, 48, 1, 20, 48, 21, 48, 2);
        asked.gives(0, ids(3), 21, 48, 1, 11, 21, 48, 21, 48, 13, 2002, 2);
        asked.gives(0, ids(1), 21, 48, 1, 21, 48, 1, 9, 2, 27, 48, 6, 21, 43, 2);
        asked.place(0, 21, 48, 1, 21, 48, 1, 9, 2, 21, 48, 2);
        asked.place(5, 21, 48, 1, 9, 21, 48, 2);
        asked.place(7, 21, 48, 1, 8, 13, 2001, 21, 48, 2);
        asked.place(7, 21, 48, 1, 3, 9, 4, 21, 48, 2);
    }

    private static void openBrackets() {
        due.about("At most 3 brackets may be open at one place of a query");
        asked.place(0, 21, 48, 1, 21, 48, 1, 21, 48, 1, 9, 2, 2, 2);
        asked.place(12, 21, 48, 1, 21, 48, 1, 21, 48, 1, 21, 48, 1, 9, 2, 2, 2, 2);
        asked.place(12, 21, 48, 1, 21, 48, 1, 21, 48, 1, 21, 48, 1);
        asked.place(12, 21, 48, 1, 21, 48, 1, 21, 48, 1, 21, 48);
        asked.place(14, 21, 48, 1, 3, 21, 48, 1, 11, 21, 48, 1, 21, 48, 1);
        // Those that are closed again aren't open.
        asked.place(0, 21, 48, 1, 9, 2, 1, 9, 2, 1, 9, 2, 1, 21, 48, 1, 21, 48, 1, 9, 2, 2, 2);
        asked.place(0, 21, 48, 1, 21, 48, 1, 21, 48, 1, 9, 2, 1, 9, 2, 2, 1, 21, 48, 1, 9, 2, 2, 2);
        asked.gives(0, ids(0), 20, 48, 1, 21, 48, 1, 21, 48, 1, 21, 41, 2, 2, 2);
        leftOpen(13, tokens(21, 48, 1, 21, 48, 1, 21, 48, 1, 9, 5, 9));
    }

    private static void openParentheses() {
        due.about("at most 4 parentheses");
        asked.place(0, 21, 48, 1, 3, 3, 3, 3, 9, 4, 4, 4, 4, 2);
        asked.place(8, 21, 48, 1, 3, 3, 3, 3, 3, 9, 4, 4, 4, 4, 4, 2);
        asked.place(8, 21, 48, 1, 3, 3, 3, 3, 3);
        asked.place(8, 21, 48, 1, 3, 3, 3, 3);
        asked.place(12, 21, 48, 1, 3, 7, 3, 7, 3, 7, 3, 7, 3);
        // Those that are closed again aren't open.
        asked.place(0, 21, 48, 1, 3, 9, 4, 5, 3, 9, 4, 5, 3, 9, 4, 5, 3, 9, 4, 5, 3, 9, 4, 2);
        asked.place(0, 21, 48, 1, 3, 3, 3, 9, 4, 4, 6, 3, 3, 3, 9, 4, 4, 4, 4, 2);
        // Those outside of an inner bracket are open inside of it too.
        asked.place(0, 21, 48, 1, 3, 3, 21, 48, 1, 3, 3, 9, 4, 4, 2, 4, 4, 2);
        asked.place(11, 21, 48, 1, 3, 3, 21, 48, 1, 3, 3, 3, 9, 4, 4, 4, 2, 4, 4, 2);
        asked.place(12, 21, 48, 1, 3, 3, 3, 3, 21, 48, 1, 7, 3, 9, 4, 2, 4, 4, 4, 4, 2);
        asked.place(0, 21, 48, 1, 3, 21, 48, 1, 3, 3, 3, 9, 4, 4, 4, 2, 5, 3, 3, 3, 9, 4, 4, 4, 4, 2);
        asked.gives(1, ids(5, 6), 21, 48, 1, 7, 3, 3, 3, 3, 10, 13, 2001, 4, 4, 4, 4, 2);
        asked.gives(0, ids(1, 3), 21, 48, 1, 3, 3, 21, 48, 1, 3, 3, 21, 48, 1, 10, 14, 2005, 2, 4, 4, 2, 4, 4, 2);
        leftOpen(9, tokens(21, 48, 1, 3, 3, 3, 3, 9));
    }

    private static void namesInAStep() {
        due.about("the list L of the nodes of its axis from c that have its name (any name: all)");
        asked.gives(0, NONE, 23, 47);
        asked.gives(0, NONE, 23, 47, 1, 9, 2, 20, 48);
        asked.gives(0, ids(0), 25, 40);
        asked.gives(0, ids(7), 23, 41, 1, 8, 13, 2002, 2);
        asked.gives(0, ids(12), 23, 43, 1, 9, 2);
        asked.gives(() -> Calls.star(40), 0, ids(39), 23, 47, 1, 8, 13, 2005, 5, 9, 2);
    }

    private static void predicatesInARow() {
        due.about("then each predicate, from left to right, keeps of the list as it is then");
        asked.gives(0, ids(4), 23, 48, 1, 8, 14, 2001, 2, 1, 8, 13, 2001, 2);
        asked.gives(0, ids(11), 23, 48, 1, 7, 9, 2, 1, 9, 2);
        asked.gives(12, ids(3), 24, 48, 1, 8, 14, 2001, 2, 1, 8, 13, 2001, 2);
        // Nothing is kept of an empty list, whatever is asked.
        asked.gives(0, NONE, 23, 48, 1, 8, 14, 2012, 2, 1, 9, 2);
        asked.gives(0, NONE, 23, 48, 1, 8, 14, 2012, 2, 1, 7, 9, 2);
        asked.gives(0, NONE, 23, 48, 1, 8, 14, 2012, 2, 1, 11, 21, 48, 13, 2000, 2);
        // Six times the last of twelve goes, then the last of six stays.
        int[] notLast = tokens(1, 7, 9, 2);
        int[] six = Asked.joined(notLast, notLast, notLast, notLast, notLast, notLast);
        asked.gives(0, ids(2), Asked.joined(tokens(23, 48), six, tokens(1, 9, 2)));
    }

    private static void positions() {
        due.about("at place p (1 is the first) of a list of m nodes: position CMP k compares p with k");
        compared(NONE, 8, 12, 2001);
        compared(ids(4), 8, 12, 2002);
        compared(ids(4, 5, 6), 8, 12, 2004);
        compared(NONE, 8, 13, 2000);
        compared(ids(4), 8, 13, 2001);
        compared(ids(6), 8, 13, 2003);
        compared(NONE, 8, 13, 2004);
        compared(ids(4, 5, 6), 8, 14, 2000);
        compared(ids(6), 8, 14, 2002);
        compared(NONE, 8, 14, 2003);
        compared(NONE, 8, 12, 1000);
        compared(NONE, 8, 13, 1000);
        compared(ids(4, 5, 6), 8, 14, 1000);
        compared(ids(4, 5, 6), 8, 12, 3000);
        compared(NONE, 8, 13, 3000);
        compared(NONE, 8, 14, 3000);
        asked.gives(() -> Calls.chain(40), 0, ids(39), 25, 48, 1, 8, 13, 2040, 2);
        asked.gives(() -> Calls.chain(40), 39, ids(0), 26, 48, 1, 8, 14, 2039, 2);
    }

    private static void last() {
        due.about("last is true if p = m");
        asked.gives(0, ids(0), 20, 48, 1, 9, 2);
        asked.gives(0, NONE, 20, 48, 1, 7, 9, 2);
        asked.gives(0, NONE, 22, 48, 1, 9, 2);
        asked.gives(1, ids(6), 21, 48, 1, 9, 2);
        asked.gives(1, ids(4, 5), 21, 48, 1, 7, 9, 2);
        asked.gives(() -> Calls.chain(40), 0, ids(39), 25, 48, 1, 9, 2);
        asked.gives(() -> Calls.chain(40), 39, ids(0), 26, 48, 1, 9, 2);
    }

    private static void values() {
        due.about("value CMP k compares d's value with k");
        Supplier<PathQueries> ends = fourValues(MIN, MAX, 0);
        asked.gives(ends, 0, ids(1), 21, 48, 1, 10, 12, 1000, 2);
        asked.gives(ends, 0, ids(1, 3), 21, 48, 1, 10, 12, 3000, 2);
        asked.gives(ends, 0, ids(2, 3), 21, 48, 1, 10, 14, 1000, 2);
        asked.gives(ends, 0, ids(2), 21, 48, 1, 10, 14, 3000, 2);
        asked.gives(ends, 0, NONE, 21, 48, 1, 10, 13, 1000, 2);
        asked.gives(ends, 0, NONE, 21, 48, 1, 10, 13, 3000, 2);
        Supplier<PathQueries> low = fourValues(-1001, -1000, -999);
        asked.gives(low, 0, ids(1), 21, 48, 1, 10, 12, 1000, 2);
        asked.gives(low, 0, ids(2), 21, 48, 1, 10, 13, 1000, 2);
        asked.gives(low, 0, ids(3), 21, 48, 1, 10, 14, 1000, 2);
        Supplier<PathQueries> high = fourValues(999, 1000, 1001);
        asked.gives(high, 0, ids(1), 21, 48, 1, 10, 12, 3000, 2);
        asked.gives(high, 0, ids(2), 21, 48, 1, 10, 13, 3000, 2);
        asked.gives(high, 0, ids(3), 21, 48, 1, 10, 14, 3000, 2);
        Supplier<PathQueries> middle = fourValues(-1, 0, 1);
        asked.gives(middle, 0, ids(1), 21, 48, 1, 10, 12, 2000, 2);
        asked.gives(middle, 0, ids(2), 21, 48, 1, 10, 13, 2000, 2);
        asked.gives(middle, 0, ids(3), 21, 48, 1, 10, 14, 2000, 2);
    }

    private static void pathsInPredicates() {
        due.about("a PATH is true if it gives some node from d");
        asked.gives(0, ids(0), 20, 48, 1, 21, 48, 2);
        asked.gives(12, NONE, 20, 48, 1, 21, 48, 2);
        asked.gives(0, NONE, 20, 48, 1, 22, 48, 2);
        asked.gives(1, ids(4), 21, 48, 1, 21, 48, 2);
        asked.gives(1, ids(5, 6), 21, 48, 1, 7, 21, 48, 2);
        asked.gives(1, NONE, 21, 48, 1, 21, 48, 21, 48, 2);
        // A node of rank 0 is some node as well as one of rank 39.
        asked.gives(1, ids(1), 20, 48, 1, 22, 40, 2);
        asked.gives(() -> Calls.chain(40), 38, ids(38), 20, 48, 1, 21, 47, 2);
    }

    private static void counts() {
        due.about("count PATH CMP k compares the number of different nodes that PATH gives from d with k");
        asked.gives(12, ids(12), 20, 48, 1, 11, 21, 48, 13, 2000, 2);
        asked.gives(12, ids(12), 20, 48, 1, 11, 21, 48, 12, 2001, 2);
        asked.gives(12, NONE, 20, 48, 1, 11, 21, 48, 14, 2000, 2);
        asked.gives(12, ids(12), 20, 48, 1, 11, 21, 48, 14, 1000, 2);
        asked.gives(12, NONE, 20, 48, 1, 11, 21, 48, 14, 3000, 2);
        asked.gives(1, ids(1), 20, 48, 1, 11, 21, 48, 13, 2003, 2);
        asked.gives(1, NONE, 20, 48, 1, 11, 21, 48, 14, 2003, 2);
        asked.gives(1, NONE, 20, 48, 1, 11, 21, 48, 12, 2003, 2);
        // The three children of 1 have one parent, and every node of the tree is behind or above some other.
        asked.gives(1, ids(1), 20, 48, 1, 11, 21, 48, 22, 48, 13, 2001, 2);
        asked.gives(0, ids(0), 20, 48, 1, 11, 23, 48, 26, 48, 13, 2013, 2);
        asked.gives(() -> Calls.star(40), 0, ids(0), 20, 48, 1, 11, 25, 48, 13, 2040, 2);
        asked.gives(() -> Calls.star(40), 0, ids(0), 20, 48, 1, 11, 21, 48, 22, 48, 25, 48, 13, 2040, 2);
        asked.gives(() -> Calls.star(40), 0, NONE, 20, 48, 1, 11, 25, 48, 14, 2040, 2);
    }

    private static void pathsOfMoreSteps() {
        due.about("a PATH of more steps gives every node that its last step gives from some node that the path without its "
                + "last step gives from c");
        // Each node that a step is taken from has a list of its own, and what two of them give is given once.
        asked.gives(0, ids(4, 8, 10), 21, 48, 21, 48, 1, 8, 13, 2001, 2);
        asked.gives(0, ids(6, 8, 10), 21, 48, 21, 48, 1, 9, 2);
        asked.gives(1, ids(1), 21, 48, 22, 48);
        asked.gives(1, ids(5, 6), 21, 48, 27, 48);
        asked.gives(0, NONE, 21, 47, 25, 48);
        asked.gives(0, NONE, 22, 48, 21, 48);
        asked.gives(0, NONE, 21, 48, 22, 48, 22, 48);
        asked.gives(7, ids(0), 22, 48, 22, 48, 22, 48);
        int[] twentySteps = Asked.forty(tokens(21, 48), 21, 48);
        asked.gives(() -> Calls.chain(40), 0, ids(20), twentySteps);
        asked.gives(() -> Calls.chain(40), 19, ids(39), twentySteps);
        asked.gives(() -> Calls.chain(40), 20, NONE, twentySteps);
    }

    private static void idsOfNoNode() {
        due.about("Ids out of range or of no node answer REFUSED (or what is said), and nothing changes.");
        Refusals refusals = new Refusals(due, TermsEdgesTest::withAGap);
        for (int id : new int[] {MIN, -40, -1, 4, 7, 13, 38, 39, 40, 41, 64, MAX}) {
            refusals.is("insert below " + id, x -> x.insert(id, 0, 1, 1), REFUSED);
            refusals.is("remove(" + id + ")", x -> x.remove(id), REFUSED);
            refusals.is("move of " + id, x -> x.move(id, 0, 0), REFUSED);
            refusals.is("move below " + id, x -> x.move(1, id, 0), REFUSED);
            refusals.is("move of " + id + " below itself", x -> x.move(id, id, 0), REFUSED);
            refusals.is("alter(" + id + ", 1, 1)", x -> x.alter(id, 1, 1), REFUSED);
            refusals.is("parent(" + id + ")", x -> x.parent(id), REFUSED);
            refusals.is("child(" + id + ", 0)", x -> x.child(id, 0), REFUSED);
            refusals.is("rank(" + id + ")", x -> x.rank(id), REFUSED);
            refusals.is("size(" + id + ")", x -> x.size(id), REFUSED);
            refusals.is("value(" + id + ")", x -> x.value(id), 0);
            refusals.is("select(" + id + ")", x -> x.select(id), REFUSED);
        }
    }

    /** The sample without the nodes 4 and 7, with a query, a result and tokens pending. */
    private static PathQueries withAGap() {
        PathQueries x = Calls.sample(40);
        x.remove(4);
        Calls.compile(x, 23, 41);
        x.select(0);
        Calls.put(x, 21, 48);
        return x;
    }

    private static Supplier<PathQueries> sample() {
        return () -> Calls.sample(40);
    }

    /** The root and three children with these values. */
    private static Supplier<PathQueries> fourValues(int first, int second, int third) {
        return () -> {
            PathQueries x = new PathQueries(4);
            x.insert(0, 0, 1, first);
            x.insert(0, 1, 1, second);
            x.insert(0, 2, 1, third);
            return x;
        };
    }

    private static long[] ids(long... ids) {
        return ids;
    }

    private static int[] tokens(int... tokens) {
        return tokens;
    }

    private static void axes(Supplier<PathQueries> maker, int from, long[]... ids) {
        due.is("axes told", ids.length, AXES);
        for (int axis = 0; axis < AXES; axis++) {
            asked.gives(maker, from, ids[axis], 20 + axis, 48);
        }
    }

    private static void ends(int axis, int from, int first, int last) {
        asked.gives(from, ids(first), 20 + axis, 48, 1, 8, 13, 2001, 2);
        asked.gives(from, ids(last), 20 + axis, 48, 1, 9, 2);
    }

    /** Which of the three children of node 1 a comparison keeps. */
    private static void compared(long[] ids, int operand, int comparison, int number) {
        asked.gives(1, ids, 21, 48, 1, operand, comparison, number, 2);
    }

    /** What a query left open when it went wrong isn't open in the next one. */
    private static void leftOpen(int place, int[] tokens) {
        PathQueries x = new PathQueries(4);
        due.is("left open", Calls.compile(x, tokens), place);
        due.is("four parentheses", Calls.compile(x, 21, 48, 1, 3, 3, 3, 3, 9, 4, 4, 4, 4, 2), 0);
        due.is("three brackets", Calls.compile(x, 21, 48, 1, 21, 48, 1, 21, 48, 1, 9, 2, 2, 2), 0);
        due.is("left open", Calls.compile(x, tokens), place);
        due.is("nothing to close", Calls.compile(x, 21, 48, 2), 3);
        due.is("nothing to close", Calls.compile(x, 21, 48, 1, 9, 4), 5);
    }
}
