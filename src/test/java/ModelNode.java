/** A NODE of the model: an Expr, a CALL or the like that is still to be worked out, or a HEAD. */
final class ModelNode {
    enum Sort { EXPR, CALL, CASE, IF, GUARD, APPLY, CAPSULE, SAME, INT, DATA, VAR, PART }

    /** The NODES that names stand for. */
    static final class Known {
        private final String name;
        private final ModelNode node;
        private final Known before;

        private Known(String name, ModelNode node, Known before) {
            this.name = name;
            this.node = node;
            this.before = before;
        }

        static Known with(String name, ModelNode node, Known before) {
            return new Known(name, node, before);
        }

        static ModelNode find(String name, Known known) {
            for (Known k = known; k != null; k = k.before) {
                if (k.name.equals(name)) {
                    return k.node;
                }
            }
            return null;
        }
    }

    Sort sort;
    /** NODES are numbered as they are made. */
    final long number;
    /** What it has become, or what a VAR is BOUND to. */
    ModelNode same;
    /** The Expr of an EXPR, IF, CASE; of a PART the LAMBDA or section. */
    ModelSyntax.Expr expr;
    Known known;
    ModelSyntax.Function function;
    ModelSyntax.Constructor constructor;
    ModelNode[] nodes = {};
    /** How far a CALL has come. */
    ModelTree tree;
    /** What an IF, CASE, GUARD or APPLY needs. */
    ModelNode needed;
    ModelSyntax.Rule rule;
    int guard;
    long value;
    boolean spanned;
    long least;
    long most;

    ModelNode(Sort sort, long number) {
        this.sort = sort;
        this.number = number;
    }

    ModelNode last() {
        ModelNode node = this;
        while (node.same != null) {
            node = node.same;
        }
        return node;
    }

    boolean is(Sort wanted) {
        return sort == wanted;
    }

    boolean isHead() {
        return sort.compareTo(Sort.INT) >= 0;
    }

    boolean isData(String name) {
        return is(Sort.DATA) && constructor.name.equals(name);
    }

    /** How many NODES a PART takes in all. */
    int takes() {
        if (function != null) {
            return function.takes;
        }
        if (constructor != null) {
            return constructor.takes();
        }
        return expr.is("LAMBDA") ? expr.names.size() : 2;
    }

    void becomeSame(ModelNode other) {
        sort = Sort.SAME;
        same = other;
    }

    void becomeExpr(ModelSyntax.Expr newExpr, Known newKnown) {
        sort = Sort.EXPR;
        expr = newExpr;
        known = newKnown;
    }

    void becomeInt(long newValue) {
        sort = Sort.INT;
        value = newValue;
    }

    void becomeData(ModelSyntax.Constructor c, ModelNode... newNodes) {
        sort = Sort.DATA;
        constructor = c;
        nodes = newNodes;
    }

    void becomeCall(ModelSyntax.Function f, ModelNode... newNodes) {
        sort = Sort.CALL;
        function = f;
        tree = f.tree;
        nodes = newNodes;
    }

    /** A PART of a function, of a constructor, or of the Expr of a LAMBDA: the others are null. */
    void becomePart(ModelSyntax.Function f, ModelSyntax.Constructor c, ModelNode... newNodes) {
        sort = Sort.PART;
        function = f;
        constructor = c;
        nodes = newNodes;
    }

    void becomeApply(ModelNode head, ModelNode... newNodes) {
        sort = Sort.APPLY;
        needed = head;
        nodes = newNodes;
    }
}
