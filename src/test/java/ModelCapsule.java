import java.util.ArrayDeque;
import java.util.ArrayList;
import java.util.Arrays;
import java.util.Deque;
import java.util.IdentityHashMap;
import java.util.List;
import java.util.Map;

/** A CAPSULE of the model: each of its PATHS is done from its beginning on, by the ALTERNATIVES that are told. */
final class ModelCapsule {
    private static final int MOST_CAPSULES = 12;

    /** LABOUR, STEPS and BINDINGS at a time. */
    private static final class Counts {
        private final long labour;
        private final long steps;
        private final long binds;

        private Counts(ModelPath path) {
            labour = path.labour;
            steps = path.steps;
            binds = path.binds;
        }

        private void restore(ModelPath path) {
            path.labour = labour;
            path.steps = steps;
            path.binds = binds;
        }
    }

    /** A PATH: its ALTERNATIVES, and the counts when each of these was begun for the first time. */
    private static final class Way {
        private final int[] alternatives;
        private final Counts[] begun;

        private Way(int[] alternatives, Counts[] begun) {
            this.alternatives = alternatives;
            this.begun = begun;
        }

        private Way with(int alternative) {
            int length = alternatives.length;
            int[] more = Arrays.copyOf(alternatives, length + 1);
            more[length] = alternative;
            return new Way(more, Arrays.copyOf(begun, length + 1));
        }
    }

    /** What a VALUE is made of: INTS, DATA, and VARS that are OUTSIDE, or have a number. */
    private static final class Value {
        private ModelNode head;
        private int variable = -1;
        private final List<Value> parts = new ArrayList<>();
    }

    private final ModelPath path;
    private final ModelNode node;
    private final ModelCapsule around;
    private final int level;
    private final Counts before;
    private final int kept;
    /** NODES with a number below are OUTSIDE. */
    final long first;
    private Way way;
    private int decided;
    private Counts now;
    private long heads;

    ModelCapsule(ModelPath path, ModelNode node) {
        this.path = path;
        this.node = node;
        around = path.capsule;
        level = around == null ? 1 : around.level + 1;
        before = new Counts(path);
        kept = path.kept();
        first = path.nextNumber();
    }

    void evaluate() {
        if (level > MOST_CAPSULES) {
            throw new ModelPath.GivenUp();
        }
        path.capsule = this;
        try {
            List<Value> values = search();
            leave();
            become(values);
        } catch (ModelPath.Outside e) {
            leave();
            path.steps = before.steps;
            path.binds = before.binds;
            if (path.isOutside(e.node)) {
                throw e;
            }
            if (e.node.is(ModelNode.Sort.VAR)) {
                throw new ModelPath.Waits();
            }
            path.evaluate(e.node);
        }
    }

    private void leave() {
        path.capsule = around;
        path.keepOnly(kept);
    }

    private List<Value> search() {
        List<Value> values = new ArrayList<>();
        Deque<Way> ways = new ArrayDeque<>();
        ways.push(new Way(new int[0], new Counts[0]));
        while (!ways.isEmpty()) {
            way = ways.pop();
            decided = 0;
            now = new Counts(path);
            if (way.alternatives.length > 0) {
                before.restore(path);
            }
            path.keepOnly(kept);
            try {
                ModelNode root = path.makeCall(node.function, node.nodes);
                path.bringToNormalForm(root);
                values.add(value(root));
            } catch (ModelPath.Decides e) {
                for (int i = e.choices - 1; i >= 0; i--) {
                    ways.push(way.with(i));
                }
            } catch (ModelPath.Fails | ModelPath.Waits e) {
                continue;
            }
        }
        return values;
    }

    boolean isTold() {
        return decided < way.alternatives.length;
    }

    /** The next ALTERNATIVE that is told. The last one is begun now, others go on as they did then. */
    int tell() {
        if (decided == way.alternatives.length - 1) {
            way.begun[decided] = now;
        }
        way.begun[decided].restore(path);
        path.pay(1);
        decided++;
        return way.alternatives[decided - 1];
    }

    private Value value(ModelNode root) {
        heads = 0;
        Value value = valueOf(root, new IdentityHashMap<>());
        path.pay(heads);
        return value;
    }

    private Value valueOf(ModelNode part, Map<ModelNode, Integer> vars) {
        ModelNode head = part.last();
        heads++;
        path.afford(heads);
        Value value = new Value();
        value.head = head;
        if (head.is(ModelNode.Sort.VAR) && !path.isOutside(head)) {
            int count = vars.size();
            value.variable = vars.computeIfAbsent(head, v -> count);
        }
        for (ModelNode other : head.is(ModelNode.Sort.DATA) ? head.nodes : new ModelNode[0]) {
            value.parts.add(valueOf(other, vars));
        }
        return value;
    }

    private void become(List<Value> values) {
        ModelNode list = path.makeNil();
        for (int i = values.size() - 1; i >= 0; i--) {
            list = path.makeCons(build(values.get(i), new ArrayList<>()), list);
        }
        node.becomeData(list.constructor, list.nodes);
    }

    private ModelNode build(Value value, List<ModelNode> vars) {
        ModelNode head = value.head;
        if (head.is(ModelNode.Sort.INT)) {
            return path.makeInt(head.value);
        }
        if (head.is(ModelNode.Sort.VAR)) {
            if (value.variable < 0) {
                return head;
            }
            while (vars.size() <= value.variable) {
                vars.add(path.make(ModelNode.Sort.VAR));
            }
            return vars.get(value.variable);
        }
        ModelNode[] parts = new ModelNode[value.parts.size()];
        for (int i = 0; i < parts.length; i++) {
            parts[i] = build(value.parts.get(i), vars);
        }
        return path.makeData(head.constructor, parts);
    }
}
