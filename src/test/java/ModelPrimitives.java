import java.util.ArrayList;
import java.util.HashMap;
import java.util.HashSet;
import java.util.List;
import java.util.Map;

/** PRIMITIVES, BINDINGS, SPANS and what is KEPT, in the model. */
final class ModelPrimitives {
    private static final int MOST_CELLS = 32;
    private static final int MOST_KEPT = 60;
    private static final int MOST_VARS = 8;
    private static final int MOST_WAYS = 200;

    private final ModelPath path;
    /** Calls of atMost, equalTo and differ: the function and its NODES. */
    private final List<ModelNode> keeping = new ArrayList<>();

    ModelPrimitives(ModelPath path) {
        this.path = path;
    }

    private static boolean isVar(ModelNode head) {
        return head.is(ModelNode.Sort.VAR);
    }

    private ModelSyntax.Function function(String name) {
        return path.module.function.get(name);
    }

    void step(ModelNode node) {
        ModelNode[] a = node.nodes;
        switch (node.function.name) {
            case "==":
                equal(node, path.need(a[0]), path.need(a[1]));
                break;
            case "/=":
                path.step(0);
                node.becomeCall(function("not"), path.makeCall(function("=="), a));
                break;
            case "=:=":
                ModelNode left = path.evaluate(a[0]);
                ModelNode right = path.evaluate(a[1]);
                // To evaluate the right one may have BOUND the left one.
                equation(node, left.last(), right);
                break;
            case "&":
                both(node, a);
                break;
            case "span":
                ModelNode least = path.need(a[1]);
                ModelNode most = path.need(a[2]);
                span(node, path.evaluate(a[0]), least.value, most.value);
                break;
            case "atMost": case "equalTo":
                sum(node, a);
                break;
            case "differ":
                count(a[0], false);
                waitForOutside(a[0]);
                path.step(0);
                keep(node);
                break;
            case "label":
                label(node, a[0]);
                break;
            default:
                ModelNode first = path.need(a[0]);
                calculate(node, first.value, path.need(a[1]).value);
        }
    }

    private void becomeBool(ModelNode node, boolean so) {
        node.becomeData(path.constructor(so ? "True" : "False"));
    }

    private void calculate(ModelNode node, long x, long y) {
        path.step(0);
        switch (node.function.name) {
            case "+":
                node.becomeInt(x + y);
                break;
            case "-":
                node.becomeInt(x - y);
                break;
            case "*":
                node.becomeInt(x * y);
                break;
            case "div": case "mod":
                if (y == 0) {
                    throw new ModelPath.Fails();
                }
                node.becomeInt(node.function.name.equals("div") ? Math.floorDiv(x, y) : Math.floorMod(x, y));
                break;
            case "<":
                becomeBool(node, x < y);
                break;
            case "<=":
                becomeBool(node, x <= y);
                break;
            case ">":
                becomeBool(node, x > y);
                break;
            default:
                becomeBool(node, x >= y);
        }
    }

    private static boolean areAlikeData(ModelNode x, ModelNode y) {
        return x.is(ModelNode.Sort.DATA) && y.is(ModelNode.Sort.DATA) && x.constructor == y.constructor;
    }

    private static boolean isPart(ModelNode x, ModelNode y) {
        return x.is(ModelNode.Sort.PART) || y.is(ModelNode.Sort.PART);
    }

    private void equal(ModelNode node, ModelNode x, ModelNode y) {
        boolean alike = areAlikeData(x, y);
        path.step(alike ? x.nodes.length : 0);
        if (isPart(x, y)) {
            throw new ModelPath.Fails();
        }
        if (alike) {
            chain(node, "==", "&&", x.nodes, y.nodes);
        } else {
            becomeBool(node, x.is(ModelNode.Sort.INT) && x.value == y.value);
        }
    }

    /** A NODE becomes x1 == y1 && (x2 == y2 && ..), or the like. */
    private void chain(ModelNode node, String each, String joint, ModelNode[] xs, ModelNode[] ys) {
        if (xs.length == 0) {
            becomeBool(node, true);
        } else if (xs.length == 1) {
            node.becomeCall(function(each), xs[0], ys[0]);
        } else {
            int last = xs.length - 1;
            ModelNode rest = path.makeCall(function(each), xs[last], ys[last]);
            for (int i = last - 1; i > 0; i--) {
                rest = path.makeCall(function(joint), path.makeCall(function(each), xs[i], ys[i]), rest);
            }
            node.becomeCall(function(joint), path.makeCall(function(each), xs[0], ys[0]), rest);
        }
    }

    private void equation(ModelNode node, ModelNode x, ModelNode y) {
        if (isVar(x) && isVar(y)) {
            equateVars(node, x, y);
            return;
        }
        if (isVar(x) || isVar(y)) {
            equateVar(node, x, y);
            return;
        }
        boolean alike = areAlikeData(x, y);
        path.step(alike ? x.nodes.length : 0);
        boolean sameInts = x.is(ModelNode.Sort.INT) && y.is(ModelNode.Sort.INT) && x.value == y.value;
        if (!alike && !sameInts) {
            throw new ModelPath.Fails();
        }
        if (alike) {
            chain(node, "=:=", "&", x.nodes, y.nodes);
        } else {
            becomeBool(node, true);
        }
    }

    private void equateVars(ModelNode node, ModelNode x, ModelNode y) {
        path.step(0);
        if (x != y) {
            boolean turned = path.isOutside(x);
            if (turned && path.isOutside(y)) {
                throw path.waitFor(x);
            }
            ModelNode bound = turned ? y : x;
            ModelNode other = turned ? x : y;
            if (path.isOutside(other) && bound.spanned) {
                throw path.waitFor(other);
            }
            bind(bound, other);
        }
        becomeBool(node, true);
    }

    private void equateVar(ModelNode node, ModelNode x, ModelNode y) {
        ModelNode variable = isVar(x) ? x : y;
        ModelNode head = isVar(x) ? y : x;
        boolean data = head.is(ModelNode.Sort.DATA);
        path.step(data ? head.nodes.length : 0);
        if (isPart(x, y)) {
            throw new ModelPath.Fails();
        }
        if (path.isOutside(variable)) {
            throw path.waitFor(variable);
        }
        if (!data) {
            bind(variable, head);
            becomeBool(node, true);
            return;
        }
        ModelNode open = path.makeOpen(head.constructor);
        bind(variable, open);
        chain(node, "=:=", "&", isVar(x) ? open.nodes : x.nodes, isVar(x) ? y.nodes : open.nodes);
    }

    private void both(ModelNode node, ModelNode[] sides) {
        long before = path.binds - 1;
        while (before != path.binds) {
            path.turn();
            before = path.binds;
            for (int i = 0; i < 2; i++) {
                if (isWorkedOut(node, sides[i], sides[1 - i])) {
                    return;
                }
            }
        }
        throw new ModelPath.Waits();
    }

    private boolean isWorkedOut(ModelNode node, ModelNode side, ModelNode other) {
        try {
            if (path.need(side).isData("True")) {
                node.becomeSame(other);
            } else {
                becomeBool(node, false);
            }
            return true;
        } catch (ModelPath.Waits e) {
            return false;
        }
    }

    // ---- SPANS and what is KEPT

    void bind(ModelNode variable, ModelNode head) {
        variable.same = head;
        path.binds++;
        if (variable.spanned && isVar(head)) {
            cut(head, variable.least, variable.most);
        } else if (variable.spanned && (head.value < variable.least || head.value > variable.most)) {
            throw new ModelPath.Fails();
        }
        look();
    }

    private static void cut(ModelNode variable, long least, long most) {
        variable.least = variable.spanned ? Math.max(variable.least, least) : least;
        variable.most = variable.spanned ? Math.min(variable.most, most) : most;
        variable.spanned = true;
        if (variable.least > variable.most) {
            throw new ModelPath.Fails();
        }
    }

    private void span(ModelNode node, ModelNode x, long least, long most) {
        if (isVar(x) && path.isOutside(x)) {
            throw path.waitFor(x);
        }
        path.step(0);
        if (isVar(x)) {
            cut(x, least, most);
        } else if (x.value < least || x.value > most) {
            throw new ModelPath.Fails();
        }
        becomeBool(node, true);
    }

    /** Needs a list with what is in its cells, and answers how many there are. */
    private int count(ModelNode list, boolean ints) {
        int count = 0;
        for (ModelNode cell = path.need(list); cell.isData(":"); cell = path.need(cell.nodes[1])) {
            count++;
            if (count > MOST_CELLS) {
                throw new ModelPath.GivenUp();
            }
            ModelNode head = ints ? path.need(cell.nodes[0]) : path.evaluate(cell.nodes[0]);
            if (isVar(head) && path.isOutside(head)) {
                throw path.waitFor(head);
            }
        }
        return count;
    }

    /** What is in the cells of a list that was counted. */
    private static List<ModelNode> cells(ModelNode list) {
        List<ModelNode> heads = new ArrayList<>();
        for (ModelNode cell = list.last(); cell.isData(":"); cell = cell.nodes[1].last()) {
            heads.add(cell.nodes[0].last());
        }
        return heads;
    }

    /** Cells that were come to may have been BOUND to a VAR that is OUTSIDE since. */
    private void waitForOutside(ModelNode list) {
        for (ModelNode head : cells(list)) {
            if (isVar(head) && path.isOutside(head)) {
                throw path.waitFor(head);
            }
        }
    }

    private void sum(ModelNode node, ModelNode[] a) {
        int factors = count(a[0], true);
        int parts = count(a[1], false);
        path.need(a[2]);
        waitForOutside(a[1]);
        path.step(0);
        if (factors != parts) {
            throw new ModelPath.Fails();
        }
        keep(node);
    }

    private void keep(ModelNode node) {
        if (keeping.size() == MOST_KEPT) {
            throw new ModelPath.GivenUp();
        }
        ModelNode call = new ModelNode(ModelNode.Sort.CALL, 0);
        call.becomeCall(node.function, node.nodes);
        keeping.add(call);
        look();
        becomeBool(node, true);
    }

    int kept() {
        return keeping.size();
    }

    void keepOnly(int count) {
        keeping.subList(count, keeping.size()).clear();
    }

    private void look() {
        if (!allHold(Map.of())) {
            throw new ModelPath.Fails();
        }
    }

    private boolean allHold(Map<ModelNode, Long> tried) {
        for (ModelNode call : keeping) {
            if (!holds(call, tried)) {
                return false;
            }
        }
        return true;
    }

    /** What has a VAR without a number holds as yet. */
    private boolean holds(ModelNode call, Map<ModelNode, Long> tried) {
        boolean differ = call.function.name.equals("differ");
        List<Long> numbers = new ArrayList<>();
        for (ModelNode head : cells(call.nodes[differ ? 0 : 1])) {
            Long number = isVar(head) ? tried.get(head) : (Long) head.value;
            if (number == null) {
                return true;
            }
            numbers.add(number);
        }
        if (differ) {
            return new HashSet<>(numbers).size() == numbers.size();
        }
        List<ModelNode> factors = cells(call.nodes[0]);
        long sum = 0;
        for (int i = 0; i < numbers.size(); i++) {
            sum += factors.get(i).value * numbers.get(i);
        }
        long bound = call.nodes[2].last().value;
        return call.function.name.equals("atMost") ? sum <= bound : sum == bound;
    }

    private void label(ModelNode node, ModelNode list) {
        count(list, false);
        waitForOutside(list);
        List<ModelNode> vars = new ArrayList<>();
        for (ModelNode head : cells(list)) {
            if (isVar(head) && !vars.contains(head)) {
                vars.add(head);
            }
        }
        for (ModelNode variable : vars) {
            if (!variable.spanned) {
                throw new ModelPath.Waits();
            }
        }
        if (vars.size() > MOST_VARS) {
            throw new ModelPath.GivenUp();
        }
        path.step(0);
        List<List<Long>> ways = new ArrayList<>();
        tryNext(vars, new ArrayList<>(), ways);
        if (ways.isEmpty()) {
            throw new ModelPath.Fails();
        }
        List<Long> way = ways.get(path.chooseOf(ways.size()));
        for (int i = 0; i < way.size(); i++) {
            bind(vars.get(i), path.makeInt(way.get(i)));
        }
        becomeBool(node, true);
    }

    private void tryNext(List<ModelNode> vars, List<Long> numbers, List<List<Long>> ways) {
        if (numbers.size() == vars.size()) {
            if (ways.size() == MOST_WAYS) {
                throw new ModelPath.GivenUp();
            }
            ways.add(new ArrayList<>(numbers));
            return;
        }
        ModelNode variable = vars.get(numbers.size());
        for (long number = variable.least; number >= variable.least && number <= variable.most; number++) {
            path.pay(1);
            path.turn();
            numbers.add(number);
            Map<ModelNode, Long> tried = new HashMap<>();
            for (int i = 0; i < numbers.size(); i++) {
                tried.put(vars.get(i), numbers.get(i));
            }
            if (allHold(tried)) {
                tryNext(vars, numbers, ways);
            }
            numbers.remove(numbers.size() - 1);
        }
    }
}
