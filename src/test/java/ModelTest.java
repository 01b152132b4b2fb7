import java.util.Arrays;

/** Long runs of calls, right and wrong ones, whose answers are compared with those of the model. */
public final class ModelTest {
    private static final Due due = new Due();

    private final Numbers numbers;
    private final int nodes;
    private final PathQueries x;
    private final Model model;

    private ModelTest(long start, int limit) {
        numbers = new Numbers(start);
        nodes = Math.max(4, Math.min(40, limit));
        x = new PathQueries(limit);
        model = new Model(limit);
    }

    public static void main(String[] args) {
        for (int round = 0; round < 1500 && due.wrongSoFar() == 0; round++) {
            due.about("round " + round);
            int limit = round % 10 == 0 ? 40 : 3 + round % 15;
            new ModelTest(round, limit).run();
        }
        due.end();
    }

    private void run() {
        QueryMaker maker = new QueryMaker(numbers);
        for (int turn = 0; turn < 60; turn++) {
            for (int i = numbers.below(4); i >= 0; i--) {
                changeTree();
            }
            lookAround();
            if (numbers.oneIn(2)) {
                newQuery(maker.query());
            }
            select();
        }
    }

    private int someId() {
        return numbers.oneIn(12) ? numbers.below(44) - 2 : numbers.below(nodes);
    }

    private void changeTree() {
        int node = someId();
        int parent = someId();
        int place = numbers.below(6) - (numbers.oneIn(8) ? 1 : 0);
        int name = numbers.oneIn(12) ? numbers.below(12) - 2 : numbers.below(4);
        int amount = numbers.oneIn(20) ? Integer.MAX_VALUE - numbers.below(2) : numbers.below(12) - 5;
        switch (numbers.below(8)) {
            case 0:
                due.is("remove(" + node + ")", x.remove(node), model.remove(node));
                break;
            case 1:
            case 2:
                due.is("move(" + node + ", " + parent + ", " + place + ")", x.move(node, parent, place),
                        model.move(node, parent, place));
                break;
            case 3:
                due.is("alter(" + node + ", " + name + ", " + amount + ")", x.alter(node, name, amount),
                        model.alter(node, name, amount));
                break;
            default:
                due.is("insert(" + parent + ", " + place + ", " + name + ", " + amount + ")",
                        x.insert(parent, place, name, amount), model.insert(parent, place, name, amount));
        }
    }

    private void lookAround() {
        for (int id = -1; id <= nodes; id++) {
            due.is("parent(" + id + ")", x.parent(id), model.parent(id));
            due.is("rank(" + id + ")", x.rank(id), model.rank(id));
            due.is("size(" + id + ")", x.size(id), model.size(id));
            due.is("value(" + id + ")", x.value(id), model.value(id));
            int place = numbers.below(6) - 1;
            due.is("child(" + id + ", " + place + ")", x.child(id, place), model.child(id, place));
        }
    }

    private void newQuery(int[] tokens) {
        if (numbers.oneIn(4)) {
            tokens[numbers.below(tokens.length)] = 1 + numbers.below(14);
        }
        for (int i = 0; i < tokens.length; i += 2) {
            int second = i + 1 < tokens.length ? tokens[i + 1] : 0;
            due.is("put", x.put(tokens[i], 0, second), model.put(tokens[i], 0, second));
        }
        due.is("compile of " + Arrays.toString(tokens), x.compile() == 0 ? 1 : 0, model.compile() ? 1 : 0);
    }

    private void select() {
        int from = someId();
        int count = x.select(from);
        due.is("select(" + from + ")", count, model.select(from));
        for (int place = -1; place <= nodes; place++) {
            due.is("picked(" + place + ")", x.picked(place), model.picked(place));
        }
        due.is("total()", x.total(), model.total());
    }
}
