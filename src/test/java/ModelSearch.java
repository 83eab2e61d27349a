import java.util.ArrayDeque;
import java.util.ArrayList;
import java.util.Arrays;
import java.util.Deque;
import java.util.IdentityHashMap;
import java.util.List;
import java.util.Map;

/** A SEARCH of the model. */
final class ModelSearch {
    private static final int WINDOWS = 1;
    private static final int BOUNDED = 2;
    /** So much the model does for one SEARCH. */
    private static final long MOST_TURNS = 6000000;

    /** What leads to a PLACE: the ALTERNATIVES, and the LABOUR up to the DECISION before. */
    private static final class Way {
        private final int[] alternatives;
        private final long labour;

        private Way(int[] alternatives, long labour) {
            this.alternatives = alternatives;
            this.labour = labour;
        }

        private int depth() {
            return alternatives.length;
        }
    }

    private final ModelSyntax.Module module;
    private final ModelSyntax.Query query;
    private final int order;
    private final int bound;
    private final Deque<Way> ways = new ArrayDeque<>();
    private final Deque<Way> nextWindow = new ArrayDeque<>();
    private int window;
    private long total;
    private boolean spent;
    private long turns = MOST_TURNS;
    final ModelTypes.T type;
    final List<String> freeNames = new ArrayList<>();
    /** As count() tells them. */
    final long[] counts = new long[14];
    /** Of the latest VALUE: what is printed for the Expr and each name, and the ALTERNATIVES. */
    final List<String> printed = new ArrayList<>();
    int[] decisions = {};

    ModelSearch(ModelSyntax.Module module, ModelSyntax.Query query, ModelTypes.T type, int order, int bound) {
        this.module = module;
        this.query = query;
        this.type = type;
        this.order = order;
        this.bound = bound;
        for (ModelSyntax.Local local : query.block) {
            for (ModelToken name : local.expr == null ? local.names : List.<ModelToken>of()) {
                freeNames.add(name.text);
            }
        }
        counts[13] = freeNames.size();
        ways.push(new Way(new int[0], 0));
    }

    int next() {
        while (true) {
            if (ways.isEmpty()) {
                ways.addAll(nextWindow);
                nextWindow.clear();
                window++;
            }
            if (ways.isEmpty()) {
                return 0;
            }
            spent = spent || counts[3] >= 1000 || total > 300000;
            if (spent) {
                return 2;
            }
            if (comeToPlace(ways.pop())) {
                return 1;
            }
        }
    }

    /** True for a VALUE. */
    private boolean comeToPlace(Way way) {
        counts[3]++;
        ModelPath path = new ModelPath(module, way.alternatives, turns);
        ModelNode[] roots = new ModelNode[1 + freeNames.size()];
        boolean value = false;
        try {
            path.run(query, roots);
            keepValue(way, path, roots);
            value = true;
        } catch (ModelPath.Fails e) {
            counts[5]++;
        } catch (ModelPath.Waits e) {
            counts[6]++;
        } catch (ModelPath.GivenUp e) {
            counts[7]++;
        } catch (ModelPath.Decides e) {
            decide(way, path.labour, e.choices);
        }
        turns = path.turnsLeft();
        total += path.labour - way.labour;
        return value;
    }

    private void decide(Way way, long labour, int choices) {
        if (order == BOUNDED && way.depth() == bound) {
            counts[8]++;
            return;
        }
        boolean later = order == WINDOWS && (way.depth() + 1) / bound > window;
        for (int i = 0; i < choices; i++) {
            int alternative = later ? i : choices - 1 - i;
            int[] more = Arrays.copyOf(way.alternatives, way.depth() + 1);
            more[way.depth()] = alternative;
            if (later) {
                nextWindow.addLast(new Way(more, labour));
            } else {
                ways.push(new Way(more, labour));
            }
        }
    }

    private void keepValue(Way way, ModelPath path, ModelNode[] roots) {
        counts[4]++;
        counts[9] = path.labour;
        counts[10] = path.steps;
        counts[11] = way.depth();
        counts[12] = path.binds;
        decisions = way.alternatives;
        printed.clear();
        Map<ModelNode, Integer> vars = new IdentityHashMap<>();
        for (ModelNode root : roots) {
            printed.add(print(root, "", vars));
        }
    }

    /** What is around: nothing, a constructor (it is behind that), or a : (it is its left side). */
    private static String print(ModelNode node, String around, Map<ModelNode, Integer> vars) {
        ModelNode head = node.last();
        switch (head.sort) {
            case INT:
                return head.value < 0 && around.equals("con") ? "(" + head.value + ")" : "" + head.value;
            case VAR:
                int count = vars.size();
                return "_" + vars.computeIfAbsent(head, v -> count + 1);
            case PART:
                return "<fun>";
            default:
                break;
        }
        if (head.isData(":")) {
            return printList(head, around, vars);
        }
        List<String> parts = new ArrayList<>();
        boolean tuple = head.constructor.name.startsWith("(,");
        for (ModelNode part : head.nodes) {
            parts.add(print(part, tuple ? "" : "con", vars));
        }
        if (tuple) {
            return "(" + String.join(",", parts) + ")";
        }
        parts.add(0, head.constructor.name);
        String text = String.join(" ", parts);
        return around.equals("con") && parts.size() > 1 ? "(" + text + ")" : text;
    }

    private static String printList(ModelNode list, String around, Map<ModelNode, Integer> vars) {
        ModelNode end = list;
        while (end.isData(":")) {
            end = end.nodes[1].last();
        }
        boolean closed = end.isData("[]");
        List<String> parts = new ArrayList<>();
        for (ModelNode cell = list; cell.isData(":"); cell = cell.nodes[1].last()) {
            parts.add(print(cell.nodes[0], closed ? "" : ":", vars));
        }
        if (closed) {
            return "[" + String.join(",", parts) + "]";
        }
        String text = String.join(" : ", parts) + " : " + print(end, "", vars);
        return around.isEmpty() ? text : "(" + text + ")";
    }
}
