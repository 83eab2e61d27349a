import java.util.ArrayList;
import java.util.Arrays;
import java.util.List;

/**
 * A PATH of the model, done from its beginning on by the ALTERNATIVES that are told. NODES are worked out
 * by calls within calls; what ends them is thrown.
 */
final class ModelPath {
    /** What ends that which is under way. */
    static class Ends extends RuntimeException {
        Ends() {
            super(null, null, false, false);
        }
    }

    static final class Fails extends Ends {
    }

    static final class Waits extends Ends {
    }

    static final class GivenUp extends Ends {
    }

    static final class Decides extends Ends {
        final int choices;

        Decides(int choices) {
            this.choices = choices;
        }
    }

    /** A NODE that is OUTSIDE of the innermost CAPSULE is needed, or, if it is a FREE VAR, waited for. */
    static final class Outside extends Ends {
        final ModelNode node;

        private Outside(ModelNode node) {
            this.node = node;
        }
    }

    /** The model itself would take too long. */
    static final class TooLong extends RuntimeException {
    }

    private static final int MOST_LABOUR = 10000;
    private static final int DEEPEST = 30000;

    final ModelSyntax.Module module;
    private final int[] alternatives;
    private int decided;
    private long ids = 1;
    private int depth;
    private long turns;
    long labour;
    long steps;
    long binds;
    /** The innermost one. */
    ModelCapsule capsule;
    private final ModelPrimitives primitives = new ModelPrimitives(this);

    ModelPath(ModelSyntax.Module module, int[] alternatives, long turns) {
        this.module = module;
        this.alternatives = alternatives;
        this.turns = turns;
    }

    /** The NODES of a Query: of its Expr, and of the names that are free, in NORMAL FORM. */
    void run(ModelSyntax.Query query, ModelNode[] roots) {
        ModelNode.Known known = block(query.block, null);
        roots[0] = node(query.expr, known);
        int count = 1;
        for (ModelSyntax.Local local : query.block) {
            for (ModelToken name : local.expr == null ? local.names : List.<ModelToken>of()) {
                roots[count] = ModelNode.Known.find(name.text, known);
                count++;
            }
        }
        for (ModelNode root : roots) {
            bringToNormalForm(root);
        }
    }

    long turnsLeft() {
        return turns;
    }

    void turn() {
        turns--;
        if (turns < 0) {
            throw new TooLong();
        }
    }

    /** Ends the PATH if so much LABOUR would be too much. */
    void afford(long cost) {
        if (labour + cost > MOST_LABOUR) {
            throw new GivenUp();
        }
    }

    void pay(long cost) {
        afford(cost);
        labour += cost;
    }

    void step(long weight) {
        pay(1 + weight);
        steps++;
    }

    /** Which ALTERNATIVE is taken; of one alone there is no DECISION. */
    int chooseOf(int choices) {
        if (choices == 1) {
            return 0;
        }
        if (capsule != null && capsule.isTold()) {
            return capsule.tell();
        }
        if (capsule == null && decided < alternatives.length) {
            decided++;
            return alternatives[decided - 1];
        }
        throw new Decides(choices);
    }

    // ---- NODES

    ModelNode make(ModelNode.Sort sort) {
        turn();
        ids++;
        return new ModelNode(sort, ids - 1);
    }

    long nextNumber() {
        return ids;
    }

    ModelNode makeData(ModelSyntax.Constructor c, ModelNode... nodes) {
        ModelNode data = make(ModelNode.Sort.DATA);
        data.becomeData(c, nodes);
        return data;
    }

    ModelNode makeInt(long value) {
        ModelNode number = make(ModelNode.Sort.INT);
        number.value = value;
        return number;
    }

    ModelNode makeCall(ModelSyntax.Function f, ModelNode... nodes) {
        ModelNode call = make(ModelNode.Sort.CALL);
        call.becomeCall(f, nodes);
        return call;
    }

    /** DATA with new FREE VARS. */
    ModelNode makeOpen(ModelSyntax.Constructor c) {
        ModelNode[] vars = new ModelNode[c.takes()];
        for (int i = 0; i < vars.length; i++) {
            vars[i] = make(ModelNode.Sort.VAR);
        }
        return makeData(c, vars);
    }

    ModelSyntax.Constructor constructor(String name) {
        return module.constructor.get(name);
    }

    ModelNode makeCons(ModelNode first, ModelNode rest) {
        return makeData(constructor(":"), first, rest);
    }

    ModelNode makeNil() {
        return makeData(constructor("[]"));
    }

    private ModelNode node(ModelSyntax.Expr expr, ModelNode.Known known) {
        ModelNode told = expr.is("NAME") ? ModelNode.Known.find(expr.name, known) : null;
        if (told != null) {
            return told;
        }
        ModelNode node = make(ModelNode.Sort.EXPR);
        node.becomeExpr(expr, known);
        return node;
    }

    private ModelNode[] nodes(List<ModelSyntax.Expr> exprs, ModelNode.Known known) {
        ModelNode[] nodes = new ModelNode[exprs.size()];
        for (int i = 0; i < nodes.length; i++) {
            nodes[i] = node(exprs.get(i), known);
        }
        return nodes;
    }

    private ModelNode.Known block(List<ModelSyntax.Local> block, ModelNode.Known around) {
        ModelNode.Known known = around;
        for (ModelSyntax.Local local : block) {
            for (ModelToken name : local.names) {
                ModelNode node = local.expr == null ? make(ModelNode.Sort.VAR) : node(local.expr, known);
                known = ModelNode.Known.with(name.text, node, known);
            }
        }
        return known;
    }

    boolean isOutside(ModelNode node) {
        return capsule != null && node.number < capsule.first;
    }

    /** Ends it for a VAR: the CAPSULES of which it is OUTSIDE, or what is under way. */
    Ends waitFor(ModelNode variable) {
        return isOutside(variable) ? new Outside(variable) : new Waits();
    }

    /** The HEAD of a NODE, of any sort. */
    ModelNode evaluate(ModelNode first) {
        depth++;
        if (depth > DEEPEST) {
            throw new TooLong();
        }
        try {
            ModelNode node = first.last();
            while (!node.isHead()) {
                if (isOutside(node)) {
                    throw new Outside(node);
                }
                turn();
                goOn(node);
                node = node.last();
            }
            return node;
        } finally {
            depth--;
        }
    }

    /** The HEAD of a NODE, which is to be no FREE VAR. */
    ModelNode need(ModelNode node) {
        ModelNode head = evaluate(node);
        if (head.is(ModelNode.Sort.VAR)) {
            throw waitFor(head);
        }
        return head;
    }

    void bringToNormalForm(ModelNode node) {
        ModelNode head = evaluate(node);
        pay(1);
        if (capsule != null && head.is(ModelNode.Sort.PART)) {
            throw new GivenUp();
        }
        for (ModelNode part : head.is(ModelNode.Sort.DATA) ? head.nodes : new ModelNode[0]) {
            bringToNormalForm(part);
        }
    }

    private void goOn(ModelNode node) {
        switch (node.sort) {
            case EXPR:
                expr(node, node.expr, node.known);
                break;
            case CALL:
                call(node);
                break;
            case CASE:
                cases(node);
                break;
            case IF:
                boolean so = need(node.needed).isData("True");
                node.becomeExpr(node.expr.part(so ? 1 : 2), node.known);
                break;
            case GUARD:
                guard(node);
                break;
            case APPLY:
                apply(node);
                break;
            case CAPSULE:
                new ModelCapsule(this, node).evaluate();
                break;
            default:
                throw new IllegalStateException("" + node.sort);
        }
    }

    private void expr(ModelNode node, ModelSyntax.Expr expr, ModelNode.Known known) {
        switch (expr.sort) {
            case "NAME": case "BIG":
                applyHead(node, expr, known);
                break;
            case "INT":
                node.becomeInt(Long.parseLong(expr.name));
                break;
            case "APPLY":
                applyHead(node, expr.part(0), known, nodes(expr.parts.subList(1, expr.parts.size()), known));
                break;
            case "SET":
                node.sort = ModelNode.Sort.CAPSULE;
                node.function = module.function.get(expr.part(0).name);
                node.nodes = nodes(expr.parts.subList(1, expr.parts.size()), known);
                break;
            case "LAMBDA":
                node.becomePart(null, null);
                break;
            case "SECTION":
                node.becomePart(null, null, node(expr.part(1), known));
                break;
            case "LET":
                node.becomeExpr(expr.part(0), block(expr.block, known));
                break;
            case "IF": case "CASE":
                node.needed = node(expr.part(0), known);
                node.sort = expr.is("IF") ? ModelNode.Sort.IF : ModelNode.Sort.CASE;
                break;
            case "FCASE":
                node.becomeCall(functionOf(expr), node(expr.part(0), known));
                break;
            case "TUPLE":
                node.becomeData(constructor(expr.parts.size() == 2 ? "(,)" : "(,,)"), nodes(expr.parts, known));
                break;
            default:
                list(node, nodes(expr.parts, known));
        }
    }

    private static ModelSyntax.Function functionOf(ModelSyntax.Expr fcase) {
        if (fcase.function == null) {
            fcase.function = new ModelSyntax.Function("fcase", null);
            fcase.function.tree = ModelTree.of(fcase.alternatives);
        }
        return fcase.function;
    }

    private void list(ModelNode node, ModelNode[] parts) {
        ModelNode rest = makeNil();
        for (int i = parts.length - 1; i > 0; i--) {
            rest = makeCons(parts[i], rest);
        }
        node.becomeData(constructor(":"), parts[0], rest);
    }

    private void applyHead(ModelNode node, ModelSyntax.Expr head, ModelNode.Known known, ModelNode... atoms) {
        if (head.is("BIG")) {
            applyConstructor(node, constructor(head.name), atoms);
            return;
        }
        ModelNode told = head.is("NAME") ? ModelNode.Known.find(head.name, known) : null;
        if (head.is("NAME") && told == null) {
            applyFunction(node, module.function.get(head.name), atoms);
        } else if (told != null && atoms.length == 0) {
            node.becomeSame(told);
        } else {
            node.becomeApply(node(head, known), atoms);
        }
    }

    private static void applyConstructor(ModelNode node, ModelSyntax.Constructor c, ModelNode... atoms) {
        if (atoms.length == c.takes()) {
            node.becomeData(c, atoms);
        } else {
            node.becomePart(null, c, atoms);
        }
    }

    private void applyFunction(ModelNode node, ModelSyntax.Function f, ModelNode... atoms) {
        if (atoms.length < f.takes) {
            node.becomePart(f, null, atoms);
        } else if (atoms.length == f.takes) {
            node.becomeCall(f, atoms);
        } else {
            ModelNode call = makeCall(f, Arrays.copyOf(atoms, f.takes));
            node.becomeApply(call, Arrays.copyOfRange(atoms, f.takes, atoms.length));
        }
    }

    private void apply(ModelNode node) {
        ModelNode part = need(node.needed);
        int lacks = part.takes() - part.nodes.length;
        if (node.nodes.length > lacks) {
            ModelNode whole = make(ModelNode.Sort.APPLY);
            whole.becomeApply(part, Arrays.copyOf(node.nodes, lacks));
            node.becomeApply(whole, Arrays.copyOfRange(node.nodes, lacks, node.nodes.length));
            return;
        }
        List<ModelNode> both = new ArrayList<>(Arrays.asList(part.nodes));
        both.addAll(Arrays.asList(node.nodes));
        ModelNode[] all = both.toArray(new ModelNode[0]);
        if (part.function != null) {
            applyFunction(node, part.function, all);
        } else if (part.constructor != null) {
            applyConstructor(node, part.constructor, all);
        } else if (node.nodes.length < lacks) {
            node.becomePart(null, null, all);
            node.expr = part.expr;
            node.known = part.known;
        } else if (part.expr.is("LAMBDA")) {
            callLambda(node, part, all);
        } else {
            step(1);
            applyHead(node, part.expr.part(0), part.known, all[1], all[0]);
        }
    }

    private void callLambda(ModelNode node, ModelNode lambda, ModelNode[] all) {
        step(lambda.expr.weight);
        ModelNode.Known known = lambda.known;
        for (int i = 0; i < all.length; i++) {
            ModelToken name = lambda.expr.names.get(i);
            known = name.is("NAME") ? ModelNode.Known.with(name.text, all[i], known) : known;
        }
        node.becomeExpr(lambda.expr.part(0), known);
    }

    // ---- CALLS

    private void call(ModelNode node) {
        if (node.function.primitive) {
            primitives.step(node);
            return;
        }
        if (node.tree == null) {
            throw new Fails();
        }
        while (!node.tree.isLeaf()) {
            node.tree = node.tree.isOr() ? node.tree.children.get(chooseOf(node.tree.children.size())) : child(node);
        }
        leaf(node, node.tree.row);
    }

    /** The child of a BRANCH that is to be gone to. */
    private ModelTree child(ModelNode node) {
        ModelTree tree = node.tree;
        ModelNode[] among = node.nodes;
        ModelNode at = null;
        for (int i : tree.position) {
            at = among[i - 1];
            among = at.last().nodes;
        }
        ModelNode head = evaluate(at);
        if (head.is(ModelNode.Sort.VAR)) {
            if (isOutside(head)) {
                throw waitFor(head);
            }
            int i = chooseOf(tree.children.size());
            narrow(head, tree.keys.get(i));
            return tree.children.get(i);
        }
        Object key = head.is(ModelNode.Sort.INT) ? (Object) head.value : head.constructor;
        if (!tree.keys.contains(key)) {
            throw new Fails();
        }
        return tree.children.get(tree.keys.indexOf(key));
    }

    private void narrow(ModelNode variable, Object key) {
        if (key instanceof Long) {
            pay(1);
            primitives.bind(variable, makeInt((Long) key));
            return;
        }
        ModelSyntax.Constructor c = (ModelSyntax.Constructor) key;
        pay(1 + c.takes());
        primitives.bind(variable, makeOpen(c));
    }

    private void leaf(ModelNode node, ModelTree.Row row) {
        if (row.alternative != null) {
            step(row.alternative.weight);
            node.becomeExpr(row.alternative.expr, names(row.alternative.pattern, node.nodes[0], node.known));
            return;
        }
        step(row.rule.weight);
        ModelNode.Known known = null;
        for (int i = 0; i < row.patterns.size(); i++) {
            known = names(row.patterns.get(i), node.nodes[i], known);
        }
        known = block(row.rule.block, known);
        if (row.rule.expr != null) {
            node.becomeExpr(row.rule.expr, known);
            return;
        }
        node.sort = ModelNode.Sort.GUARD;
        node.rule = row.rule;
        node.guard = 0;
        node.known = known;
        node.needed = node(row.rule.guards.get(0).guard, known);
    }

    private void guard(ModelNode node) {
        List<ModelSyntax.Guard> guards = node.rule.guards;
        if (need(node.needed).isData("True")) {
            node.becomeExpr(guards.get(node.guard).expr, node.known);
            return;
        }
        if (node.guard + 1 == guards.size()) {
            throw new Fails();
        }
        node.guard++;
        node.needed = node(guards.get(node.guard).guard, node.known);
    }

    private static ModelNode.Known names(ModelSyntax.Pattern pattern, ModelNode node, ModelNode.Known around) {
        ModelNode.Known known = around;
        if (pattern.tellsName()) {
            known = ModelNode.Known.with(pattern.name, node, known);
        }
        for (int i = 0; i < pattern.parts.size(); i++) {
            known = names(pattern.parts.get(i), pattern.is("AS") ? node : node.last().nodes[i], known);
        }
        return known;
    }

    private void cases(ModelNode node) {
        for (ModelSyntax.Alternative alternative : node.expr.alternatives) {
            if (isThere(alternative.pattern.plain(), node.needed)) {
                step(alternative.weight);
                node.becomeExpr(alternative.expr, names(alternative.pattern, node.needed, node.known));
                return;
            }
        }
        throw new Fails();
    }

    private boolean isThere(ModelSyntax.Pattern pattern, ModelNode node) {
        if (pattern.is("INT")) {
            return need(node).value == pattern.number();
        }
        if (pattern.is("CON")) {
            ModelNode head = need(node);
            if (head.constructor != pattern.constructor) {
                return false;
            }
            for (int i = 0; i < pattern.parts.size(); i++) {
                if (!isThere(pattern.parts.get(i).plain(), head.nodes[i])) {
                    return false;
                }
            }
        }
        return true;
    }

    int kept() {
        return primitives.kept();
    }

    void keepOnly(int count) {
        primitives.keepOnly(count);
    }
}
