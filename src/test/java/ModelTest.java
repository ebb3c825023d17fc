import java.util.ArrayDeque;
import java.util.Arrays;
import java.util.Collection;
import java.util.Deque;
import java.util.HashSet;
import java.util.IdentityHashMap;
import java.util.Map;
import java.util.Set;

/**
 * Long runs of calls, each answer compared with that of a model that says the
 * document's terms with Java objects. The runs come from a fixed sequence of
 * numbers, so that they are the same each time.
 */
public final class ModelTest {
    private static final int RUNS = 4000;
    private static final int CALLS = 512;

    private static final class Node {
        int value;
        final Node[] links = new Node[2];

        Node(int value) {
            this.value = value;
        }

        boolean isLike(Node other) {
            return value == other.value && links[0] == other.links[0] && links[1] == other.links[1];
        }
    }

    private static final class Model {
        private Node root;
        private final Node[] handles = new Node[4];
        private Node committedRoot;
        private final Map<Node, Node> committed = new IdentityHashMap<>();

        static boolean isHandle(int h) {
            return 0 <= h && h <= 3;
        }

        static Set<Node> comeTo(Collection<Node> starts) {
            Set<Node> seen = new HashSet<>();
            Deque<Node> open = new ArrayDeque<>();
            for (Node start : starts) {
                if (start != null) {
                    open.add(start);
                }
            }
            while (!open.isEmpty()) {
                Node node = open.remove();
                if (seen.add(node)) {
                    for (Node next : node.links) {
                        if (next != null) {
                            open.add(next);
                        }
                    }
                }
            }
            return seen;
        }

        Set<Node> fromRoot() {
            return comeTo(Arrays.asList(root));
        }

        int inUse() {
            Set<Node> used = comeTo(Arrays.asList(handles));
            used.addAll(fromRoot());
            used.addAll(committed.keySet());
            return used.size();
        }

        int changed() {
            int count = 0;
            for (Node node : fromRoot()) {
                Node old = committed.get(node);
                if (old == null || !node.isLike(old)) {
                    count++;
                }
            }
            return count;
        }

        int make(int h, int value) {
            if (!isHandle(h)) {
                return -1;
            }
            if (inUse() == 12) {
                return -2;
            }
            handles[h] = new Node(value);
            return h;
        }

        int getRoot(int h) {
            if (!isHandle(h)) {
                return -1;
            }
            handles[h] = root;
            return root != null ? 1 : 0;
        }

        int setRoot(int h) {
            if (!isHandle(h)) {
                return -1;
            }
            root = handles[h];
            return root != null ? 1 : 0;
        }

        int follow(int h, int g, int which) {
            if (!isHandle(h) || !isHandle(g) || which < 0 || which > 1) {
                return -1;
            }
            if (handles[g] == null) {
                return -3;
            }
            handles[h] = handles[g].links[which];
            return handles[h] != null ? 1 : 0;
        }

        int link(int h, int which, int g) {
            if (!isHandle(h) || !isHandle(g) || which < 0 || which > 1) {
                return -1;
            }
            if (handles[h] == null) {
                return -3;
            }
            handles[h].links[which] = handles[g];
            return handles[g] != null ? 1 : 0;
        }

        int drop(int h) {
            if (!isHandle(h)) {
                return -1;
            }
            int answer = handles[h] != null ? 1 : 0;
            handles[h] = null;
            return answer;
        }

        int value(int h) {
            return isHandle(h) && handles[h] != null ? handles[h].value : 0;
        }

        int setValue(int h, int value) {
            if (!isHandle(h)) {
                return -1;
            }
            if (handles[h] == null) {
                return -3;
            }
            handles[h].value = value;
            return 1;
        }

        boolean same(int g, int h) {
            return isHandle(g) && isHandle(h) && handles[g] != null && handles[g] == handles[h];
        }

        int commit() {
            int answer = changed();
            committedRoot = root;
            committed.clear();
            for (Node node : fromRoot()) {
                Node copy = new Node(node.value);
                copy.links[0] = node.links[0];
                copy.links[1] = node.links[1];
                committed.put(node, copy);
            }
            return answer;
        }

        int abort() {
            root = committedRoot;
            Arrays.fill(handles, null);
            for (Map.Entry<Node, Node> entry : committed.entrySet()) {
                Node node = entry.getKey();
                Node copy = entry.getValue();
                node.value = copy.value;
                node.links[0] = copy.links[0];
                node.links[1] = copy.links[1];
            }
            return committed.size();
        }

        int crash(int writes) {
            boolean valid = Math.max(writes, 0) >= changed() + 1;
            if (valid) {
                commit();
            }
            abort();
            return valid ? 1 : 0;
        }

        int reachable() {
            return fromRoot().size();
        }
    }

    private static final int MAKE = 0;
    private static final int LINK = 1;
    private static final int FOLLOW = 2;
    private static final int GET_ROOT = 3;
    private static final int SET_ROOT = 4;
    private static final int DROP = 5;
    private static final int VALUE = 6;
    private static final int SET_VALUE = 7;
    private static final int SAME = 8;
    private static final int REACHABLE = 9;
    private static final int COMMIT = 10;
    private static final int ABORT = 11;
    private static final int CRASH = 12;
    private static final String[] NAMES = {"make", "link", "follow", "getRoot", "setRoot", "drop", "value",
        "setValue", "same", "reachable", "commit", "abort", "crash"};

    private static long seed = 1;
    private static int fullAnswers = 0;
    private static int mostChanged = 0;

    private PersistentGraph graph = new PersistentGraph();
    private Model model = new Model();
    private int calls = 0;
    private boolean agrees = true;

    private static int below(int bound) {
        seed = seed * 6364136223846793005L + 1442695040888963407L;
        return (int) ((seed >>> 33) % bound);
    }

    private static int someHandle() {
        return below(40) == 0 ? (below(2) == 0 ? -1 : 4) : below(4);
    }

    private static int someLink() {
        return below(40) == 0 ? (below(2) == 0 ? -1 : 2) : below(2);
    }

    private int ofGraph(int kind, int a, int b, int c) {
        switch (kind) {
            case MAKE: return graph.make(a, b);
            case LINK: return graph.link(a, b, c);
            case FOLLOW: return graph.follow(a, b, c);
            case GET_ROOT: return graph.getRoot(a);
            case SET_ROOT: return graph.setRoot(a);
            case DROP: return graph.drop(a);
            case VALUE: return graph.value(a);
            case SET_VALUE: return graph.setValue(a, b);
            case SAME: return graph.same(a, b) ? 1 : 0;
            case REACHABLE: return graph.reachable();
            case COMMIT: return graph.commit();
            case ABORT: return graph.abort();
            default: return graph.crash(a);
        }
    }

    private int ofModel(int kind, int a, int b, int c) {
        switch (kind) {
            case MAKE: return model.make(a, b);
            case LINK: return model.link(a, b, c);
            case FOLLOW: return model.follow(a, b, c);
            case GET_ROOT: return model.getRoot(a);
            case SET_ROOT: return model.setRoot(a);
            case DROP: return model.drop(a);
            case VALUE: return model.value(a);
            case SET_VALUE: return model.setValue(a, b);
            case SAME: return model.same(a, b) ? 1 : 0;
            case REACHABLE: return model.reachable();
            case COMMIT: return model.commit();
            case ABORT: return model.abort();
            default: return model.crash(a);
        }
    }

    private void call(int kind, int a, int b, int c) {
        if (!agrees || calls == CALLS) {
            return;
        }
        calls++;
        int got = ofGraph(kind, a, b, c);
        int want = ofModel(kind, a, b, c);
        if (kind == MAKE && want == -2) {
            fullAnswers++;
        }
        if (kind == COMMIT) {
            mostChanged = Math.max(mostChanged, want);
        }
        if (got != want) {
            agrees = false;
            System.out.println("call " + calls + " of a run, " + NAMES[kind] + " with " + a + ", " + b + ", " + c
                + ": answered " + got + ", due is " + want);
        }
    }

    /** Puts a new object before the root, which single calls do too seldom to fill the graph. */
    private void grow() {
        int old = below(4);
        int made = (old + 1 + below(3)) % 4;
        int which = below(2);
        call(GET_ROOT, old, 0, 0);
        call(MAKE, made, below(4), 0);
        call(LINK, made, which, old);
        call(SET_ROOT, made, 0, 0);
    }

    /** Looks at every object that a walk from the root by some links comes to. */
    private void walk() {
        int h = below(4);
        call(GET_ROOT, h, 0, 0);
        for (int step = 0; step < 6; step++) {
            call(VALUE, h, 0, 0);
            call(FOLLOW, h, h, below(2));
        }
    }

    private void end() {
        switch (below(4)) {
            case 0: call(ABORT, 0, 0, 0); break;
            case 1: call(CRASH, below(16) - 2, 0, 0); break;
            default: call(COMMIT, 0, 0, 0); break;
        }
    }

    private void single() {
        switch (below(10)) {
            case 0: call(MAKE, someHandle(), below(4), 0); break;
            case 1: call(DROP, someHandle(), 0, 0); break;
            case 2: call(FOLLOW, someHandle(), someHandle(), someLink()); break;
            case 3: call(GET_ROOT, someHandle(), 0, 0); break;
            case 4: call(SET_VALUE, someHandle(), below(4), 0); break;
            case 5: call(SAME, someHandle(), someHandle(), 0); break;
            case 6: call(VALUE, someHandle(), 0, 0); break;
            case 7: call(REACHABLE, 0, 0, 0); break;
            case 8: call(below(6) == 0 ? SET_ROOT : GET_ROOT, someHandle(), 0, 0); break;
            default: call(LINK, someHandle(), someLink(), someHandle()); break;
        }
    }

    private boolean run(int growth, int ends) {
        while (agrees && calls < CALLS) {
            int pick = below(100);
            if (pick < growth) {
                grow();
            } else if (pick < growth + ends) {
                end();
            } else if (pick < growth + ends + 3) {
                walk();
            } else {
                single();
            }
        }
        return agrees;
    }

    public static void main(String[] args) {
        int wrong = 0;
        for (int run = 0; run < RUNS; run++) {
            int growth = run % 5 * 7;
            int ends = 1 + run % 7 * 2;
            if (!new ModelTest().run(growth, ends)) {
                wrong++;
            }
        }
        if (fullAnswers < 1000 || mostChanged < 12) {
            wrong++;
            System.out.println("the runs come too seldom to a full graph");
        }
        System.out.println(wrong == 0 ? "all runs agree with the model" : "not all runs agree with the model");
        if (wrong != 0) {
            System.exit(1);
        }
    }
}
