/** Promises 1 to 10 at their boundaries: a test for each sentence that names one. */
public final class TreeEdgesTest {
    private static final int REFUSED = PathQueries.REFUSED;
    private static final int FULL = PathQueries.FULL;
    private static final int MIN = Integer.MIN_VALUE;
    private static final int MAX = Integer.MAX_VALUE;
    private static final int[] NO_NAMES = {MIN, -8, -1, 8, 9, 40, MAX};
    private static final Due due = new Due();

    public static void main(String[] args) {
        due.run(
                TreeEdgesTest::limitIsClamped,
                TreeEdgesTest::insertAtAPlace,
                TreeEdgesTest::insertWithNoName,
                TreeEdgesTest::insertAtNoPlace,
                TreeEdgesTest::insertIntoAFullTree,
                TreeEdgesTest::insertTakesTheLeastId,
                TreeEdgesTest::removeTakesTheWholeSubtree,
                TreeEdgesTest::removeOfTheRoot,
                TreeEdgesTest::removeAnswersHowManyWent,
                TreeEdgesTest::movePlaces,
                TreeEdgesTest::moveToNoPlace,
                TreeEdgesTest::moveOfTheRoot,
                TreeEdgesTest::moveIntoItsSubtree,
                TreeEdgesTest::moveAnswersTheRank,
                TreeEdgesTest::moveInAFullTree,
                TreeEdgesTest::alterNames,
                TreeEdgesTest::alterValues,
                TreeEdgesTest::alterAnswersTheOldName,
                TreeEdgesTest::parentOfTheRoot,
                TreeEdgesTest::noSuchChild,
                TreeEdgesTest::rankOfTheRoot,
                TreeEdgesTest::sizeCountsTheNodeItself,
                TreeEdgesTest::valueOfNoNode);
    }

    private static void limitIsClamped() {
        due.about("Promise 1: the most nodes, clamped to 4 .. 40");
        int[] given = {MIN, -40, -1, 0, 1, 3, 4, 5, 39, 40, 41, 64, MAX};
        int[] held = {4, 4, 4, 4, 4, 4, 4, 5, 39, 40, 40, 40, 40};
        for (int i = 0; i < given.length; i++) {
            String limit = "limit " + given[i] + ", ";
            PathQueries x = new PathQueries(given[i]);
            for (int id = 1; id < held[i]; id++) {
                due.is(limit + "node " + id, x.insert(0, 0, 7, id), id);
            }
            due.is(limit + "one more", x.insert(0, 0, 7, 0), FULL);
            due.is(limit + "size(0)", x.size(0), held[i]);
        }
    }

    private static void insertAtAPlace() {
        due.about("Promise 2: A new node becomes child number place (0: the first) of the parent");
        PathQueries x = new PathQueries(40);
        due.is("the first of none", x.insert(0, 0, 1, 0), 1);
        due.is("before the only one", x.insert(0, 0, 1, 0), 2);
        due.is("behind both", x.insert(0, 2, 1, 0), 3);
        due.is("before the last", x.insert(0, 2, 1, 0), 4);
        due.is("behind the first", x.insert(0, 1, 1, 0), 5);
        due.are("the children of 0", Calls.children(x, 0), 2, 5, 1, 4, 3);
        due.is("below the last", x.insert(3, 0, 1, 0), 6);
        due.is("behind a subtree", x.insert(0, 5, 1, 0), 7);
        due.are("the children of 0", Calls.children(x, 0), 2, 5, 1, 4, 3, 7);
        due.are("the children of 3", Calls.children(x, 3), 6);
        due.is("rank(7)", x.rank(7), 7);
    }

    private static void insertWithNoName() {
        due.about("Promise 2: name 0 .. 7, else REFUSED");
        PathQueries x = new PathQueries(40);
        for (int name = 0; name < 8; name++) {
            due.is("name " + name, x.insert(0, 0, name, 0), name + 1);
        }
        for (int name = 0; name < 8; name++) {
            due.is("the name given to " + (name + 1), x.alter(name + 1, 0, 0), name);
        }
        Refusals refusals = new Refusals(due, () -> busy(40));
        for (int name : NO_NAMES) {
            refusals.is("insert with name " + name, y -> y.insert(0, 0, name, 1), REFUSED);
        }
    }

    private static void insertAtNoPlace() {
        due.about("Promise 2: place 0 .. the number of children, else REFUSED");
        for (int place = 0; place <= 3; place++) {
            due.is("place " + place + " of 3", busy(40).insert(0, place, 1, 1), 13);
        }
        due.is("place 38 of 38", Calls.star(39).insert(0, 38, 1, 1), FULL);
        due.is("place 39 of 38", Calls.star(39).insert(0, 39, 1, 1), REFUSED);
        due.is("place 0 of a leaf", busy(40).insert(12, 0, 1, 1), 13);
        due.is("place 1 of an only child", busy(40).insert(2, 1, 1, 1), 13);
        Refusals refusals = new Refusals(due, () -> busy(40));
        for (int place : new int[] {MIN, -1, 4, 5, 12, 40, MAX}) {
            refusals.is("insert at place " + place + " of 3", y -> y.insert(0, place, 1, 1), REFUSED);
        }
        refusals.is("insert at place 1 of a leaf", y -> y.insert(12, 1, 1, 1), REFUSED);
        refusals.is("insert at place -1 of a leaf", y -> y.insert(12, -1, 1, 1), REFUSED);
        refusals.is("insert at place 2 of an only child", y -> y.insert(2, 2, 1, 1), REFUSED);
    }

    private static void insertIntoAFullTree() {
        due.about("Promise 2: FULL if there are as many nodes as the limit");
        for (int limit : new int[] {4, 5, 39, 40}) {
            PathQueries x = new PathQueries(limit);
            for (int id = 1; id < limit; id++) {
                due.is("node " + id + " of limit " + limit, x.insert(id - 1, 0, 1, id), id);
            }
            due.is("below the last", x.insert(limit - 1, 0, 1, 1), FULL);
            due.is("below the root", x.insert(0, 1, 1, 1), FULL);
            due.is("the last goes", x.remove(limit - 1), 1);
            due.is("there is room for one", x.insert(0, 1, 1, 1), limit - 1);
            due.is("and for no other", x.insert(0, 1, 1, 1), FULL);
        }
        Refusals refusals = new Refusals(due, () -> busy(13));
        refusals.is("insert below the root", y -> y.insert(0, 0, 1, 1), FULL);
        refusals.is("insert below a leaf", y -> y.insert(12, 0, 1, 1), FULL);
        refusals.is("insert at the end", y -> y.insert(0, 3, 7, MAX), FULL);
    }

    private static void insertTakesTheLeastId() {
        due.about("Promise 2: Answers its id, the least id that no node has.");
        PathQueries x = Calls.star(40);
        for (int id : new int[] {39, 1, 20, 2, 38}) {
            due.is("remove(" + id + ")", x.remove(id), 1);
        }
        for (int id : new int[] {1, 2, 20, 38, 39}) {
            due.is("the next id", x.insert(0, 0, 1, 1), id);
        }
        due.is("none is left", x.insert(0, 0, 1, 1), FULL);
        // A refused insert uses no id up, and a move keeps the ids.
        due.is("remove(7)", x.remove(7), 1);
        due.is("a refused one", x.insert(0, 39, 1, 1), REFUSED);
        due.is("move(8, 9, 0)", x.move(8, 9, 0), 11);
        due.is("the next id", x.insert(0, 0, 1, 1), 7);
        PathQueries chain = Calls.chain(40);
        due.is("all but the root and 1 .. 9 go", chain.remove(10), 30);
        due.is("the next id", chain.insert(0, 0, 1, 1), 10);
        due.is("the next id", chain.insert(10, 0, 1, 1), 11);
        due.is("it has no children of old", chain.child(11, 0), REFUSED);
    }

    private static void removeTakesTheWholeSubtree() {
        due.about("Promise 3: Takes the node with its whole subtree out of the tree.");
        PathQueries x = Calls.sample(13);
        due.is("remove(1)", x.remove(1), 5);
        for (int gone : new int[] {1, 4, 5, 6, 7}) {
            due.is("rank(" + gone + ")", x.rank(gone), REFUSED);
            due.is("size(" + gone + ")", x.size(gone), REFUSED);
            due.is("value(" + gone + ")", x.value(gone), 0);
            due.is("remove(" + gone + ") again", x.remove(gone), REFUSED);
        }
        due.are("the children of 0", Calls.children(x, 0), 2, 3);
        due.is("size(0)", x.size(0), 8);
        due.is("rank(2)", x.rank(2), 1);
        due.is("the last of all", x.remove(12), 1);
        due.are("the children of 10", Calls.children(x, 10), 11);
        due.is("rank(11)", x.rank(11), 6);
    }

    private static void removeOfTheRoot() {
        due.about("Promise 3: The root: REFUSED.");
        new Refusals(due, () -> busy(13)).is("remove(0)", y -> y.remove(0), REFUSED);
        new Refusals(due, () -> new PathQueries(4)).is("remove(0) of the root alone", y -> y.remove(0), REFUSED);
    }

    private static void removeAnswersHowManyWent() {
        due.about("Promise 3: Answers how many nodes went.");
        due.is("a leaf", Calls.sample(40).remove(12), 1);
        due.is("a node with a child", Calls.sample(40).remove(4), 2);
        due.is("all but the root", Calls.chain(40).remove(1), 39);
        due.is("the last of forty", Calls.chain(40).remove(39), 1);
        due.is("one of thirty-nine children", Calls.star(40).remove(1), 1);
    }

    private static void movePlaces() {
        due.about("Promise 4: becomes child number place of the parent, counted among the children that the parent then has "
                + "without it");
        movedAmongSiblings(1, 0, 1, 2, 3);
        movedAmongSiblings(1, 1, 2, 1, 3);
        movedAmongSiblings(1, 2, 2, 3, 1);
        movedAmongSiblings(2, 0, 2, 1, 3);
        movedAmongSiblings(2, 1, 1, 2, 3);
        movedAmongSiblings(2, 2, 1, 3, 2);
        movedAmongSiblings(3, 0, 3, 1, 2);
        movedAmongSiblings(3, 1, 1, 3, 2);
        movedAmongSiblings(3, 2, 1, 2, 3);
        // Coming from elsewhere there is one place more.
        movedAmongSiblings(12, 0, 12, 1, 2, 3);
        movedAmongSiblings(12, 2, 1, 2, 12, 3);
        movedAmongSiblings(12, 3, 1, 2, 3, 12);
        PathQueries x = Calls.sample(40);
        due.is("below a leaf", x.move(1, 12, 0), 8);
        due.are("the children of 12", Calls.children(x, 12), 1);
        due.are("the children of 0", Calls.children(x, 0), 2, 3);
        due.are("its own children", Calls.children(x, 1), 4, 5, 6);
        due.is("its parent", x.parent(1), 12);
    }

    private static void moveToNoPlace() {
        due.about("Promise 4: (0 .. their number, else REFUSED)");
        Refusals refusals = new Refusals(due, () -> busy(13));
        for (int place : new int[] {MIN, -1, 3, 4, 12, 40, MAX}) {
            refusals.is("move to place " + place + " of 2 others", y -> y.move(1, 0, place), REFUSED);
        }
        for (int place : new int[] {MIN, -1, 4, 5, 40, MAX}) {
            refusals.is("move to place " + place + " of 3", y -> y.move(12, 0, place), REFUSED);
        }
        refusals.is("move of an only child to place 1", y -> y.move(8, 2, 1), REFUSED);
        refusals.is("move to place 1 of a leaf", y -> y.move(8, 12, 1), REFUSED);
        refusals.is("move to place 2 of an only child", y -> y.move(12, 2, 2), REFUSED);
        due.is("an only child to place 0", busy(13).move(8, 2, 0), 7);
        due.is("to place 0 of a leaf", busy(13).move(8, 12, 0), 11);
        due.is("to place 1 of an only child", busy(13).move(12, 2, 1), 9);
        due.is("the last of 39 to place 38", Calls.star(40).move(39, 0, 38), 39);
        due.is("the last of 39 to place 39", Calls.star(40).move(39, 0, 39), REFUSED);
    }

    private static void moveOfTheRoot() {
        due.about("Promise 4: REFUSED if node is the root");
        Refusals refusals = new Refusals(due, () -> busy(13));
        refusals.is("move(0, 0, 0)", y -> y.move(0, 0, 0), REFUSED);
        refusals.is("move(0, 1, 0)", y -> y.move(0, 1, 0), REFUSED);
        refusals.is("move(0, 12, 0)", y -> y.move(0, 12, 0), REFUSED);
    }

    private static void moveIntoItsSubtree() {
        due.about("Promise 4: REFUSED if the parent is in the node's subtree");
        Refusals refusals = new Refusals(due, () -> busy(13));
        refusals.is("move below itself", y -> y.move(1, 1, 0), REFUSED);
        refusals.is("move below its first child", y -> y.move(1, 4, 0), REFUSED);
        refusals.is("move below its grandchild", y -> y.move(1, 7, 0), REFUSED);
        refusals.is("move below the last of its subtree", y -> y.move(1, 6, 0), REFUSED);
        refusals.is("move of a leaf below itself", y -> y.move(12, 12, 0), REFUSED);
        due.is("below the node just behind its subtree", busy(13).move(1, 2, 0), 2);
        due.is("below the node just before it", busy(13).move(2, 6, 0), 6);
        due.is("below its parent", busy(13).move(4, 1, 0), 2);
        due.is("below its grandparent", busy(13).move(7, 1, 0), 2);
        due.is("the first of a chain below the last", Calls.chain(40).move(1, 39, 0), REFUSED);
        due.is("the last of a chain below the root", Calls.chain(40).move(39, 0, 1), 39);
    }

    private static void moveAnswersTheRank() {
        due.about("Promise 4: Answers the node's place in document order then.");
        int[][] moves = {{1, 0, 0, 1}, {1, 0, 1, 4}, {1, 0, 2, 8}, {3, 0, 0, 1}, {3, 0, 1, 6}, {7, 0, 0, 1}, {7, 12, 0, 12},
            {12, 0, 3, 12}, {12, 0, 0, 1}, {1, 12, 0, 8}, {2, 6, 0, 6}, {10, 4, 1, 4}};
        for (int[] move : moves) {
            PathQueries x = Calls.sample(40);
            String call = "move(" + move[0] + ", " + move[1] + ", " + move[2] + ")";
            due.is(call, x.move(move[0], move[1], move[2]), move[3]);
            due.is("rank(" + move[0] + ") after " + call, x.rank(move[0]), move[3]);
            due.is("size(0) after " + call, x.size(0), 13);
        }
    }

    private static void moveInAFullTree() {
        due.about("Promise 4: The node, with its subtree, leaves its place (a full tree has room for that)");
        PathQueries x = Calls.chain(40);
        due.is("all but the root, to where it is", x.move(1, 0, 0), 1);
        due.is("half of the chain", x.move(20, 0, 1), 20);
        due.is("size(0)", x.size(0), 40);
        due.is("size(20)", x.size(20), 20);
        due.is("size(1)", x.size(1), 19);
        due.is("child(19, 0)", x.child(19, 0), REFUSED);
        due.is("all but the first", x.move(1, 39, 0), 21);
        due.is("rank(39)", x.rank(39), 20);
        due.is("rank(19)", x.rank(19), 39);
        due.is("value(19)", x.value(19), 19);
        due.is("the name of 19", x.alter(19, 0, 0), 3);
    }

    private static void alterNames() {
        due.about("Promise 5: Sets name (0 .. 7, else REFUSED)");
        PathQueries x = Calls.sample(40);
        due.is("to name 7", x.alter(12, 7, 0), 3);
        due.is("to name 0", x.alter(12, 0, 0), 7);
        due.is("to the name that it has", x.alter(12, 0, 0), 0);
        Refusals refusals = new Refusals(due, () -> busy(13));
        for (int name : NO_NAMES) {
            refusals.is("alter(5, " + name + ", 99)", y -> y.alter(5, name, 99), REFUSED);
            refusals.is("alter(0, " + name + ", 99)", y -> y.alter(0, name, 99), REFUSED);
        }
    }

    private static void alterValues() {
        due.about("Promise 5: Sets name and value");
        PathQueries x = Calls.sample(40);
        for (int amount : new int[] {MIN, -1, 0, MAX}) {
            for (int node : new int[] {0, 5, 12}) {
                x.alter(node, 1, amount);
                due.is("value(" + node + ")", x.value(node), amount);
            }
        }
        due.is("the others stay", x.value(11), 12);
    }

    private static void alterAnswersTheOldName() {
        due.about("Promise 5: Answers the node's old name.");
        PathQueries x = Calls.star(40);
        due.is("the root", x.alter(0, 5, 0), 0);
        due.is("the root again", x.alter(0, 6, 0), 5);
        due.is("the last node", x.alter(39, 0, 0), 7);
        due.is("the last node again", x.alter(39, 1, 0), 0);
        due.is("a node that came again has its new name", x.remove(39) + x.insert(0, 0, 4, 0), 40);
        due.is("alter(39, 1, 0)", x.alter(39, 1, 0), 4);
    }

    private static void parentOfTheRoot() {
        due.about("Promise 6: The parent's id; REFUSED for the root too.");
        new Refusals(due, () -> busy(13)).is("parent(0)", y -> y.parent(0), REFUSED);
        PathQueries x = Calls.chain(40);
        due.is("parent(0)", x.parent(0), REFUSED);
        due.is("a parent that is the root", x.parent(1), 0);
        due.is("parent(39)", x.parent(39), 38);
        due.is("of no node yet", Calls.chain(39).parent(39), REFUSED);
        due.is("parent(0) of the root alone", new PathQueries(4).parent(0), REFUSED);
    }

    private static void noSuchChild() {
        due.about("Promise 7: The id of child number place; REFUSED if there is none.");
        Refusals refusals = new Refusals(due, () -> busy(13));
        for (int place : new int[] {MIN, -1, 3, 4, 12, 40, MAX}) {
            refusals.is("child(0, " + place + ")", y -> y.child(0, place), REFUSED);
            refusals.is("child(12, " + place + ")", y -> y.child(12, place), REFUSED);
        }
        refusals.is("child(12, 0)", y -> y.child(12, 0), REFUSED);
        refusals.is("child(2, 1)", y -> y.child(2, 1), REFUSED);
        due.are("the children of 0", Calls.children(busy(13), 0), 1, 2, 3);
        due.is("the first of 39", Calls.star(40).child(0, 0), 1);
        due.is("the last of 39", Calls.star(40).child(0, 38), 39);
        due.is("behind the last of 39", Calls.star(40).child(0, 39), REFUSED);
    }

    private static void rankOfTheRoot() {
        due.about("Promise 8: The place of the node in document order, 0 for the root.");
        due.is("the root alone", new PathQueries(4).rank(0), 0);
        due.is("the root of thirteen", Calls.sample(13).rank(0), 0);
        due.is("its first child", Calls.sample(13).rank(1), 1);
        due.is("the last of thirteen", Calls.sample(13).rank(12), 12);
        due.is("the last of forty", Calls.chain(40).rank(39), 39);
        PathQueries x = Calls.sample(13);
        x.insert(0, 0, 1, 1);
        x.remove(1);
        x.insert(0, 0, 1, 1);
        due.is("the root after changes", x.rank(0), 0);
        due.is("a node put in front", x.rank(1), 1);
        due.is("the one behind it", x.rank(2), 2);
    }

    private static void sizeCountsTheNodeItself() {
        due.about("Promise 9: The number of nodes of the subtree of the node, itself counted.");
        due.is("the root alone", new PathQueries(4).size(0), 1);
        due.is("a leaf", Calls.sample(13).size(12), 1);
        due.is("a node with one child", Calls.sample(13).size(4), 2);
        due.is("all of forty", Calls.chain(40).size(0), 40);
        due.is("all but the root", Calls.chain(40).size(1), 39);
        due.is("the last", Calls.chain(40).size(39), 1);
        due.is("one of many children", Calls.star(40).size(39), 1);
        PathQueries x = Calls.sample(13);
        x.remove(4);
        due.is("after a removal", x.size(1), 3);
        x.move(5, 12, 0);
        due.is("after a move away", x.size(1), 2);
        due.is("after a move to it", x.size(12), 2);
        due.is("above that", x.size(3), 5);
    }

    private static void valueOfNoNode() {
        due.about("Promise 10: The node's value; 0 if there is no such node.");
        PathQueries x = Calls.sample(13);
        due.is("a value like REFUSED", x.alter(5, 1, REFUSED) + x.value(5), 3 + REFUSED);
        due.is("a value of 0", x.value(10), 0);
        due.is("value(12)", x.value(12), 12);
        x.remove(12);
        due.is("a node that went", x.value(12), 0);
        x.remove(1);
        due.is("one that went with its parent", x.value(7), 0);
        for (int id : new int[] {MIN, -1, 13, 39, 40, MAX}) {
            due.is("value(" + id + ")", x.value(id), 0);
        }
        due.is("one that came again", x.insert(0, 0, 1, -6) + x.value(1), 1 - 6);
    }

    /** The sample with a query, a result and tokens pending. */
    private static PathQueries busy(int limit) {
        PathQueries x = Calls.sample(limit);
        Calls.compile(x, 23, 41);
        x.select(0);
        Calls.put(x, 21, 48);
        return x;
    }

    private static void movedAmongSiblings(int node, int place, long... children) {
        PathQueries x = Calls.sample(13);
        String call = "move(" + node + ", 0, " + place + ")";
        due.is("whether " + call + " is refused", x.move(node, 0, place) == REFUSED ? 1 : 0, 0);
        due.are("the children of 0 after " + call, Calls.children(x, 0), children);
    }
}
