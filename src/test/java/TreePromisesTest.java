/** Promises 2 to 10 in ordinary runs: the tree and its changes. */
public final class TreePromisesTest {
    private static final int REFUSED = PathQueries.REFUSED;
    private static final int FULL = PathQueries.FULL;
    private static final int[] NO_IDS = {-1, 40, 41, 39, 13, Integer.MIN_VALUE, Integer.MAX_VALUE};
    private static final Due due = new Due();

    public static void main(String[] args) {
        due.run(
                TreePromisesTest::insert,
                TreePromisesTest::insertTakesTheLeastFreeId,
                TreePromisesTest::remove,
                TreePromisesTest::moveToOtherParents,
                TreePromisesTest::moveAmongSiblings,
                TreePromisesTest::alter,
                TreePromisesTest::parentAndChild,
                TreePromisesTest::rankAndSize,
                TreePromisesTest::value);
    }

    private static void insert() {
        due.about("promise 2, insert");
        PathQueries x = new PathQueries(40);
        due.is("the only child", x.insert(0, 0, 0, Integer.MIN_VALUE), 1);
        due.is("in front", x.insert(0, 0, 7, Integer.MAX_VALUE), 2);
        due.is("behind", x.insert(0, 2, 1, 0), 3);
        due.is("between", x.insert(0, 1, 1, 0), 4);
        due.are("the children of 0", Calls.children(x, 0), 2, 4, 1, 3);
        due.is("below", x.insert(4, 0, 1, 0), 5);
        due.is("behind a child with a subtree", x.insert(0, 2, 1, 0), 6);
        due.is("behind all below 4", x.insert(4, 1, 1, 0), 7);
        due.are("the children of 0", Calls.children(x, 0), 2, 4, 6, 1, 3);
        due.are("the children of 4", Calls.children(x, 4), 5, 7);
        due.are("the ranks", ranks(x, 8), 0, 6, 1, 7, 2, 3, 5, 4);
        due.is("value(1)", x.value(1), Integer.MIN_VALUE);
        due.is("value(2)", x.value(2), Integer.MAX_VALUE);
        due.is("the name of 2", x.alter(2, 0, 0), 7);
        due.is("place 6 of 5 children", x.insert(0, 6, 1, 0), REFUSED);
        due.is("place -1", x.insert(0, -1, 1, 0), REFUSED);
        due.is("place 1 of none", x.insert(5, 1, 1, 0), REFUSED);
        due.is("name 8", x.insert(0, 0, 8, 0), REFUSED);
        due.is("name -1", x.insert(0, 0, -1, 0), REFUSED);
        for (int id : NO_IDS) {
            due.is("parent " + id, x.insert(id, 0, 1, 0), REFUSED);
        }
        due.is("size(0)", x.size(0), 8);
    }

    private static void insertTakesTheLeastFreeId() {
        due.about("promise 2, the least id");
        PathQueries x = Calls.sample(13);
        x.remove(8);
        x.remove(5);
        due.is("first", x.insert(0, 3, 1, 1), 5);
        due.is("second", x.insert(0, 0, 2, 2), 8);
        due.is("third", x.insert(5, 0, 3, 3), 9);
        due.is("fourth", x.insert(5, 0, 3, 3), FULL);
        due.is("a node that came back has no old children", x.child(8, 0), REFUSED);
        due.is("a node that came back has its new value", x.value(8), 2);
    }

    private static void remove() {
        due.about("promise 3, remove");
        PathQueries x = Calls.sample(40);
        due.is("the root", x.remove(0), REFUSED);
        due.is("a leaf", x.remove(12), 1);
        due.is("a subtree", x.remove(1), 5);
        for (int gone : new int[] {1, 4, 5, 6, 7, 12}) {
            due.is("rank(" + gone + ")", x.rank(gone), REFUSED);
            due.is("value(" + gone + ")", x.value(gone), 0);
            due.is("remove(" + gone + ")", x.remove(gone), REFUSED);
        }
        due.are("the children of 0", Calls.children(x, 0), 2, 3);
        due.is("rank(2)", x.rank(2), 1);
        due.is("rank(11)", x.rank(11), 6);
        due.is("size(0)", x.size(0), 7);
        due.is("size(3)", x.size(3), 3);
        for (int id : NO_IDS) {
            due.is("remove(" + id + ")", x.remove(id), REFUSED);
        }
        due.is("size(0)", x.size(0), 7);
    }

    private static void moveToOtherParents() {
        due.about("promise 4, move to another parent");
        PathQueries x = Calls.sample(13);
        due.is("forwards, behind all", x.move(1, 0, 2), 8);
        due.are("the children of 0", Calls.children(x, 0), 2, 3, 1);
        due.is("down, between", x.move(1, 10, 1), 7);
        due.are("the children of 10", Calls.children(x, 10), 11, 1, 12);
        due.are("the children of 1", Calls.children(x, 1), 4, 5, 6);
        due.is("parent(1)", x.parent(1), 10);
        due.is("size(10)", x.size(10), 8);
        due.is("size(0)", x.size(0), 13);
        due.is("rank(12)", x.rank(12), 12);
        due.is("rank(7)", x.rank(7), 9);
        due.is("up, in front", x.move(10, 0, 0), 1);
        due.are("the children of 0", Calls.children(x, 0), 10, 2, 3);
        due.is("rank(3)", x.rank(3), 12);
        due.is("below a leaf", x.move(2, 3, 0), 10);
        due.is("rank(3)", x.rank(3), 9);
        due.is("to its grandparent", x.move(9, 2, 1), 12);
        due.are("the children of 2", Calls.children(x, 2), 8, 9);
        due.is("the value goes along", x.value(9), -4);
        due.is("the name goes along", x.alter(9, 1, 1), 2);
    }

    private static void moveAmongSiblings() {
        due.about("promise 4, move among siblings");
        PathQueries x = Calls.sample(40);
        due.is("to where it is", x.move(2, 0, 1), 6);
        due.are("the children of 0", Calls.children(x, 0), 1, 2, 3);
        due.is("to the end", x.move(1, 0, 2), 8);
        due.are("the children of 0", Calls.children(x, 0), 2, 3, 1);
        due.is("one on", x.move(2, 0, 1), 5);
        due.are("the children of 0", Calls.children(x, 0), 3, 2, 1);
        due.is("to the front", x.move(1, 0, 0), 1);
        due.are("the children of 0", Calls.children(x, 0), 1, 3, 2);
        due.is("place 3 of 2 others", x.move(1, 0, 3), REFUSED);
        due.is("place 3 of 3 others", x.move(4, 0, 3), 11);
        due.are("the children of 0", Calls.children(x, 0), 1, 3, 2, 4);
    }

    private static void alter() {
        due.about("promise 5, alter");
        PathQueries x = Calls.sample(40);
        due.is("alter(5, 7, -9)", x.alter(5, 7, -9), 3);
        due.is("value(5)", x.value(5), -9);
        due.is("alter(5, 0, 1)", x.alter(5, 0, 1), 7);
        due.is("the root", x.alter(0, 4, Integer.MIN_VALUE), 0);
        due.is("value(0)", x.value(0), Integer.MIN_VALUE);
        due.is("name 8", x.alter(5, 8, 2), REFUSED);
        due.is("name -1", x.alter(5, -1, 2), REFUSED);
        due.is("value(5)", x.value(5), 1);
        due.is("the name stayed", x.alter(5, 1, 1), 0);
        for (int id : NO_IDS) {
            due.is("node " + id, x.alter(id, 1, 1), REFUSED);
        }
    }

    private static void parentAndChild() {
        due.about("promises 6 and 7, parent and child");
        PathQueries x = Calls.sample(40);
        due.is("parent(1)", x.parent(1), 0);
        due.is("parent(7)", x.parent(7), 4);
        due.is("parent(12)", x.parent(12), 10);
        due.is("parent(0)", x.parent(0), REFUSED);
        due.is("child(0, 0)", x.child(0, 0), 1);
        due.is("child(0, 2)", x.child(0, 2), 3);
        due.is("child(0, 3)", x.child(0, 3), REFUSED);
        due.is("child(0, -1)", x.child(0, -1), REFUSED);
        due.is("child(1, 1)", x.child(1, 1), 5);
        due.is("child(10, 1)", x.child(10, 1), 12);
        due.is("child(12, 0)", x.child(12, 0), REFUSED);
        due.is("the greatest place", x.child(0, Integer.MAX_VALUE), REFUSED);
        due.is("the least place", x.child(0, Integer.MIN_VALUE), REFUSED);
        for (int id : NO_IDS) {
            due.is("parent(" + id + ")", x.parent(id), REFUSED);
            due.is("child(" + id + ", 0)", x.child(id, 0), REFUSED);
        }
    }

    private static void rankAndSize() {
        due.about("promises 8 and 9, rank and size");
        PathQueries x = Calls.sample(40);
        due.are("the ranks", ranks(x, 13), 0, 1, 6, 9, 2, 4, 5, 3, 7, 8, 10, 11, 12);
        due.is("size(0)", x.size(0), 13);
        due.is("size(1)", x.size(1), 5);
        due.is("size(4)", x.size(4), 2);
        due.is("size(2)", x.size(2), 3);
        due.is("size(12)", x.size(12), 1);
        for (int id : NO_IDS) {
            due.is("rank(" + id + ")", x.rank(id), REFUSED);
            due.is("size(" + id + ")", x.size(id), REFUSED);
        }
    }

    private static void value() {
        due.about("promise 10, value");
        PathQueries x = Calls.sample(40);
        due.is("value(12)", x.value(12), 12);
        due.is("value(8)", x.value(8), -4);
        x.alter(8, 1, -1);
        due.is("a value like REFUSED", x.value(8), -1);
        for (int id : NO_IDS) {
            due.is("value(" + id + ")", x.value(id), 0);
        }
    }

    private static long[] ranks(PathQueries x, int nodes) {
        long[] ranks = new long[nodes];
        for (int id = 0; id < nodes; id++) {
            ranks[id] = x.rank(id);
        }
        return ranks;
    }
}
