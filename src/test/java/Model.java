import java.util.ArrayList;
import java.util.HashSet;
import java.util.List;
import java.util.Set;

/** The document written down with lists and recursion, as plainly as can be: for the tests, to compare with. */
final class Model {
    private static final int REFUSED = -1;
    private static final int FULL = -2;

    private static final class Node {
        int id;
        int name;
        int value;
        Node parent;
        final List<Node> children = new ArrayList<>();
    }

    private final int limit;
    private final Node[] nodes = new Node[40];
    private final List<Integer> pending = new ArrayList<>();
    private int[] query = {};
    private List<Integer> result = new ArrayList<>();
    private long total = 0;
    // Where the reading of the query has come to while it is worked out.
    private int at;

    Model(int limit) {
        this.limit = Math.max(4, Math.min(40, limit));
        nodes[0] = new Node();
    }

    int insert(int parent, int place, int name, int value) {
        Node above = node(parent);
        if (above == null || name < 0 || name > 7 || place < 0 || place > above.children.size()) {
            return REFUSED;
        }
        if (documentOrder().size() == limit) {
            return FULL;
        }
        Node fresh = new Node();
        while (nodes[fresh.id] != null) {
            fresh.id++;
        }
        nodes[fresh.id] = fresh;
        fresh.name = name;
        fresh.value = value;
        fresh.parent = above;
        above.children.add(place, fresh);
        return fresh.id;
    }

    int remove(int node) {
        Node gone = node(node);
        if (gone == null || gone.parent == null) {
            return REFUSED;
        }
        gone.parent.children.remove(gone);
        List<Node> all = subtree(gone);
        for (Node each : all) {
            nodes[each.id] = null;
        }
        return all.size();
    }

    int move(int node, int parent, int place) {
        Node mover = node(node);
        Node above = node(parent);
        if (mover == null || above == null || mover.parent == null || subtree(mover).contains(above)) {
            return REFUSED;
        }
        List<Node> others = new ArrayList<>(above.children);
        others.remove(mover);
        if (place < 0 || place > others.size()) {
            return REFUSED;
        }
        mover.parent.children.remove(mover);
        above.children.add(place, mover);
        mover.parent = above;
        return rank(node);
    }

    int alter(int node, int name, int value) {
        Node altered = node(node);
        if (altered == null || name < 0 || name > 7) {
            return REFUSED;
        }
        int old = altered.name;
        altered.name = name;
        altered.value = value;
        return old;
    }

    int parent(int node) {
        return node(node) == null || node(node).parent == null ? REFUSED : node(node).parent.id;
    }

    int child(int node, int place) {
        boolean there = node(node) != null && place >= 0 && place < node(node).children.size();
        return there ? node(node).children.get(place).id : REFUSED;
    }

    int rank(int node) {
        return node(node) == null ? REFUSED : documentOrder().indexOf(node(node));
    }

    int size(int node) {
        return node(node) == null ? REFUSED : subtree(node(node)).size();
    }

    int value(int node) {
        return node(node) == null ? 0 : node(node).value;
    }

    int put(int a, int b, int c) {
        List<Integer> more = new ArrayList<>(List.of(a, b, c));
        more.removeIf(token -> token == 0);
        if (pending.size() + more.size() > 40) {
            return FULL;
        }
        pending.addAll(more);
        return pending.size();
    }

    /** Whether the pending tokens are a query; the place of a wrong one is for GrammarTest. */
    boolean compile() {
        int[] tokens = pending.stream().mapToInt(Integer::intValue).toArray();
        pending.clear();
        if (Grammar.isQuery(tokens)) {
            query = tokens;
            return true;
        }
        return false;
    }

    int select(int node) {
        if (node(node) == null || query.length == 0) {
            return REFUSED;
        }
        at = 0;
        Set<Node> given = path(node(node));
        result = new ArrayList<>();
        total = 0;
        for (Node each : documentOrder()) {
            if (given.contains(each)) {
                result.add(each.id);
                total += each.value;
            }
        }
        return result.size();
    }

    int picked(int place) {
        return place >= 0 && place < result.size() ? result.get(place) : REFUSED;
    }

    long total() {
        return total;
    }

    private Node node(int id) {
        return id < 0 || id >= 40 ? null : nodes[id];
    }

    private List<Node> documentOrder() {
        return subtree(nodes[0]);
    }

    private static List<Node> subtree(Node top) {
        List<Node> all = new ArrayList<>();
        all.add(top);
        for (Node child : top.children) {
            all.addAll(subtree(child));
        }
        return all;
    }

    private List<Node> axis(int axis, Node c) {
        List<Node> found = new ArrayList<>();
        boolean behind = false;
        for (Node d : documentOrder()) {
            boolean siblings = d.parent != null && d.parent == c.parent && d != c;
            boolean below = subtree(c).contains(d);
            boolean above = subtree(d).contains(c);
            boolean[] on = {d == c, d.parent == c, c.parent == d, below && d != c, above && d != c, below, above,
                siblings && behind, siblings && !behind, behind && !below, !behind && !above};
            behind = behind || d == c;
            if (on[axis]) {
                boolean reverse = axis == 2 || axis == 4 || axis == 6 || axis == 8 || axis == 10;
                found.add(reverse ? 0 : found.size(), d);
            }
        }
        return found;
    }

    // Each of these reads on from the place at and leaves it behind what it has read; from no node it only reads.

    private Set<Node> path(Node c) {
        Set<Node> given = new HashSet<>(step(c));
        while (at < query.length && query[at] >= 20 && query[at] <= 30) {
            int start = at;
            Set<Node> next = new HashSet<>(step(null));
            for (Node each : given) {
                at = start;
                next.addAll(step(each));
            }
            given = next;
        }
        return given;
    }

    private List<Node> step(Node c) {
        List<Node> list = c == null ? new ArrayList<>() : axis(query[at] - 20, c);
        int name = query[at + 1] - 40;
        list.removeIf(d -> name != 8 && d.name != name);
        at += 2;
        while (at < query.length && query[at] == 1) {
            int start = at + 1;
            List<Node> kept = new ArrayList<>();
            at = start;
            or(null, 0, 0);
            int end = at;
            for (int i = 0; i < list.size(); i++) {
                at = start;
                if (or(list.get(i), i + 1, list.size())) {
                    kept.add(list.get(i));
                }
            }
            list = kept;
            at = end + 1;
        }
        return list;
    }

    private boolean or(Node d, int p, int m) {
        boolean holds = and(d, p, m);
        while (query[at] == 6) {
            at++;
            holds = and(d, p, m) || holds;
        }
        return holds;
    }

    private boolean and(Node d, int p, int m) {
        boolean holds = not(d, p, m);
        while (query[at] == 5) {
            at++;
            holds = not(d, p, m) && holds;
        }
        return holds;
    }

    private boolean not(Node d, int p, int m) {
        if (query[at] == 7) {
            at++;
            return !not(d, p, m);
        }
        return atom(d, p, m);
    }

    private boolean atom(Node d, int p, int m) {
        int token = query[at];
        if (token >= 20) {
            return !path(d).isEmpty();
        }
        at++;
        switch (token) {
            case 3:
                boolean holds = or(d, p, m);
                at++;
                return holds;
            case 8:
                return comparison(p);
            case 9:
                return p == m;
            case 10:
                return comparison(d == null ? 0 : d.value);
            default:
                int count = path(d).size();
                return comparison(count);
        }
    }

    private boolean comparison(int left) {
        int sign = Integer.compare(left, query[at + 1] - 2000);
        int due = query[at] - 13;
        at += 2;
        return sign == due;
    }
}
