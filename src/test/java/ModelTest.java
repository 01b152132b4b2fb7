import java.util.Arrays;

/** Long runs of calls, right and wrong ones, whose answers are compared with those of the model. */
public final class ModelTest {
    private static final int CALLS = 512;
    private static final Due due = new Due();

    private final Numbers numbers;
    private final int nodes;
    private final PathQueries x;
    private final Model model;

    private int calls = 0;

    private ModelTest(long start, int limit) {
        numbers = new Numbers(start);
        nodes = Math.max(4, Math.min(40, limit));
        x = new PathQueries(limit);
        model = new Model(limit);
    }

    public static void main(String[] args) {
        for (int round = 0; round < 8000 && due.wrongSoFar() == 0; round++) {
            due.about("round " + round);
            int limit = round % 20 == 0 ? 40 : 3 + round % 17;
            new ModelTest(round, limit).run();
        }
        due.end();
    }

    private void run() {
        QueryMaker maker = new QueryMaker(numbers);
        for (int i = 1; i < nodes; i++) {
            insert(numbers.below(i), numbers.below(3));
        }
        // A turn takes at most 86 calls, and an object is good for 512.
        while (calls < CALLS - 86) {
            for (int i = numbers.below(4); i >= 0; i--) {
                changeTree();
            }
            for (int i = 0; i < 3; i++) {
                lookAt(someId());
            }
            if (numbers.oneIn(2)) {
                newQuery(maker.query());
            }
            select();
        }
    }

    private void same(String call, long got, long expected) {
        calls++;
        due.is(call, got, expected);
    }

    private int someId() {
        return numbers.oneIn(12) ? numbers.below(44) - 2 : numbers.below(nodes);
    }

    private int someName() {
        return numbers.oneIn(12) ? numbers.below(12) - 2 : numbers.below(4);
    }

    private int someValue() {
        return numbers.oneIn(20) ? Integer.MAX_VALUE - numbers.below(2) : numbers.below(12) - 5;
    }

    private void changeTree() {
        int node = someId();
        int place = numbers.below(6) - (numbers.oneIn(8) ? 1 : 0);
        switch (numbers.below(8)) {
            case 0:
                same("remove(" + node + ")", x.remove(node), model.remove(node));
                break;
            case 1:
            case 2:
                move(node, someId(), place);
                break;
            case 3:
                alter(node);
                break;
            default:
                insert(node, place);
        }
    }

    private void insert(int parent, int place) {
        int name = someName();
        int amount = someValue();
        same("insert(" + parent + ", " + place + ", " + name + ", " + amount + ")", x.insert(parent, place, name, amount),
                model.insert(parent, place, name, amount));
    }

    private void move(int node, int parent, int place) {
        same("move(" + node + ", " + parent + ", " + place + ")", x.move(node, parent, place),
                model.move(node, parent, place));
    }

    private void alter(int node) {
        int name = someName();
        int amount = someValue();
        same("alter(" + node + ", " + name + ", " + amount + ")", x.alter(node, name, amount),
                model.alter(node, name, amount));
    }

    private void lookAt(int id) {
        same("parent(" + id + ")", x.parent(id), model.parent(id));
        same("rank(" + id + ")", x.rank(id), model.rank(id));
        same("size(" + id + ")", x.size(id), model.size(id));
        same("value(" + id + ")", x.value(id), model.value(id));
        int place = numbers.below(6) - 1;
        same("child(" + id + ", " + place + ")", x.child(id, place), model.child(id, place));
    }

    private void newQuery(int[] tokens) {
        if (numbers.oneIn(4)) {
            tokens[numbers.below(tokens.length)] = 1 + numbers.below(14);
        }
        for (int i = 0; i < tokens.length; i += 2) {
            int second = i + 1 < tokens.length ? tokens[i + 1] : 0;
            same("put", x.put(tokens[i], 0, second), model.put(tokens[i], 0, second));
        }
        same("compile of " + Arrays.toString(tokens), x.compile() == 0 ? 1 : 0, model.compile() ? 1 : 0);
    }

    private void select() {
        int from = someId();
        int count = model.select(from);
        same("select(" + from + ")", x.select(from), count);
        for (int place = 0; place <= count; place++) {
            same("picked(" + place + ")", x.picked(place), model.picked(place));
        }
        same("total()", x.total(), model.total());
    }
}
