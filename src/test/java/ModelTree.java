import java.util.ArrayList;
import java.util.HashSet;
import java.util.LinkedHashMap;
import java.util.List;
import java.util.Map;
import java.util.Set;

/** A TREE of rules, or of Alts: a LEAF, a BRANCH at a position, or an OR. */
final class ModelTree {
    /** A rule with its patterns; of fcase an Alt, with the one that it has. */
    static final class Row {
        final int number;
        final List<ModelSyntax.Pattern> patterns;
        final ModelSyntax.Rule rule;
        final ModelSyntax.Alternative alternative;

        private Row(int number, List<ModelSyntax.Pattern> patterns, ModelSyntax.Rule rule, ModelSyntax.Alternative alternative) {
            this.number = number;
            this.patterns = patterns;
            this.rule = rule;
            this.alternative = alternative;
        }

        private ModelSyntax.Pattern at(List<Integer> position) {
            List<ModelSyntax.Pattern> among = patterns;
            ModelSyntax.Pattern found = null;
            for (int i : position) {
                found = among.get(i - 1).plain();
                among = found.parts;
            }
            return found;
        }

        private boolean needs(List<Integer> position) {
            return at(position).is("INT") || at(position).is("CON");
        }
    }

    /** Of a LEAF. */
    Row row;
    /** Of a BRANCH, with the constructor or INT of each child. */
    List<Integer> position;
    final List<Object> keys = new ArrayList<>();
    final List<ModelTree> children = new ArrayList<>();

    private ModelTree() {
    }

    boolean isLeaf() {
        return row != null;
    }

    boolean isBranch() {
        return position != null;
    }

    boolean isOr() {
        return !isLeaf() && !isBranch();
    }

    static ModelTree of(ModelSyntax.Function function) {
        List<Row> rows = new ArrayList<>();
        for (ModelSyntax.Rule rule : function.rules) {
            rows.add(new Row(rule.number, rule.patterns, rule, null));
        }
        return of(rows, below(List.of(), function.takes));
    }

    static ModelTree of(List<ModelSyntax.Alternative> alternatives) {
        List<Row> rows = new ArrayList<>();
        for (ModelSyntax.Alternative alternative : alternatives) {
            rows.add(new Row(rows.size() + 1, List.of(alternative.pattern), null, alternative));
        }
        return of(rows, below(List.of(), 1));
    }

    private static List<List<Integer>> below(List<Integer> position, int count) {
        List<List<Integer>> positions = new ArrayList<>();
        for (int i = 1; i <= count; i++) {
            List<Integer> one = new ArrayList<>(position);
            one.add(i);
            positions.add(one);
        }
        return positions;
    }

    private static ModelTree of(List<Row> rows, List<List<Integer>> open) {
        List<Integer> some = null;
        for (List<Integer> position : open) {
            int needing = 0;
            for (Row row : rows) {
                needing += row.needs(position) ? 1 : 0;
            }
            if (needing == rows.size()) {
                return branch(rows, open, position);
            }
            some = some == null && needing > 0 ? position : some;
        }
        ModelTree tree = new ModelTree();
        if (some == null && rows.size() == 1) {
            tree.row = rows.get(0);
            return tree;
        }
        for (int from = 0, to = 1; from < rows.size(); from = to, to++) {
            while (some != null && to < rows.size() && rows.get(to).needs(some) == rows.get(from).needs(some)) {
                to++;
            }
            tree.children.add(of(rows.subList(from, to), open));
        }
        return tree;
    }

    private static ModelTree branch(List<Row> rows, List<List<Integer>> open, List<Integer> position) {
        ModelTree tree = new ModelTree();
        tree.position = position;
        Map<Object, List<Row>> groups = new LinkedHashMap<>();
        for (Row row : rows) {
            ModelSyntax.Pattern pattern = row.at(position);
            Object key = pattern.is("INT") ? (Object) pattern.number() : pattern.constructor;
            groups.computeIfAbsent(key, k -> new ArrayList<>()).add(row);
        }
        tree.keys.addAll(groups.keySet());
        if (tree.keys.get(0) instanceof ModelSyntax.Constructor) {
            tree.keys.sort((x, y) -> ((ModelSyntax.Constructor) x).index - ((ModelSyntax.Constructor) y).index);
        }
        for (Object key : tree.keys) {
            int takes = key instanceof ModelSyntax.Constructor ? ((ModelSyntax.Constructor) key).takes() : 0;
            List<List<Integer>> nowOpen = new ArrayList<>();
            for (List<Integer> other : open) {
                nowOpen.addAll(other.equals(position) ? below(position, takes) : List.of(other));
            }
            tree.children.add(of(groups.get(key), nowOpen));
        }
        return tree;
    }

    boolean covers() {
        if (isLeaf()) {
            return row.rule.guards.isEmpty();
        }
        int covering = 0;
        for (ModelTree child : children) {
            covering += child.covers() ? 1 : 0;
        }
        if (isOr()) {
            return covering > 0;
        }
        boolean ints = keys.get(0) instanceof Long;
        return !ints && covering == ((ModelSyntax.Constructor) keys.get(0)).data.constructors.size();
    }

    int countOrs() {
        int count = isOr() ? 1 : 0;
        for (ModelTree child : children) {
            count += child.countOrs();
        }
        return count;
    }

    int countBranches() {
        int count = isBranch() ? 1 : 0;
        for (ModelTree child : children) {
            count += child.countBranches();
        }
        return count;
    }

    String print() {
        if (isLeaf()) {
            return "#" + row.number;
        }
        List<String> texts = new ArrayList<>();
        for (int i = 0; i < children.size(); i++) {
            Object key = isOr() ? "" : keys.get(i);
            String head = key instanceof ModelSyntax.Constructor ? ((ModelSyntax.Constructor) key).name : "" + key;
            texts.add((isOr() ? "" : head + ":") + children.get(i).print());
        }
        if (isOr()) {
            return "[" + String.join(",", texts) + "]";
        }
        List<String> numbers = new ArrayList<>();
        for (int i : position) {
            numbers.add("" + i);
        }
        return String.join(".", numbers) + "{" + String.join(",", texts) + "}";
    }

    // ---- SINGLE

    /** Makes the TREES of functions, and finds which are SINGLE: all, until something speaks against it. */
    static void makeAll(List<ModelSyntax.Function> functions, ModelSyntax.Module module) {
        for (ModelSyntax.Function f : functions) {
            if (!f.rules.isEmpty()) {
                f.tree = of(f);
                f.single = f.tree.countOrs() == 0;
            }
        }
        boolean changed = true;
        while (changed) {
            changed = false;
            for (ModelSyntax.Function f : functions) {
                if (f.single && !f.rules.isEmpty() && namesSeveral(f, module)) {
                    f.single = false;
                    changed = true;
                }
            }
        }
    }

    private static boolean namesSeveral(ModelSyntax.Function function, ModelSyntax.Module module) {
        for (ModelSyntax.Rule rule : function.rules) {
            Set<String> known = new HashSet<>();
            for (ModelSyntax.Pattern pattern : rule.patterns) {
                addNames(pattern, known);
            }
            if (isSeveral(rule.block, known, module)) {
                return true;
            }
            for (ModelSyntax.Expr expr : rule.exprs()) {
                if (isSeveral(expr, known, module)) {
                    return true;
                }
            }
        }
        return false;
    }

    private static void addNames(ModelSyntax.Pattern pattern, Set<String> known) {
        if (pattern.tellsName()) {
            known.add(pattern.name);
        }
        for (ModelSyntax.Pattern part : pattern.parts) {
            addNames(part, known);
        }
    }

    private static boolean isSeveral(List<ModelSyntax.Local> block, Set<String> known, ModelSyntax.Module module) {
        for (ModelSyntax.Local local : block) {
            if (local.expr == null || isSeveral(local.expr, known, module)) {
                return true;
            }
            known.add(local.names.get(0).text);
        }
        return false;
    }

    private static boolean isSeveral(ModelSyntax.Expr expr, Set<String> around, ModelSyntax.Module module) {
        Set<String> known = new HashSet<>(around);
        if (expr.is("NAME")) {
            return !known.contains(expr.name) && !module.function.get(expr.name).single;
        }
        if (expr.is("FCASE") || isSeveral(expr.block, known, module)) {
            return true;
        }
        if (expr.is("SET") && !module.function.get(expr.part(0).name).single) {
            return true;
        }
        for (ModelToken name : expr.names) {
            known.add(name.text);
        }
        List<ModelSyntax.Expr> parts = expr.is("SET") ? expr.parts.subList(1, expr.parts.size()) : expr.parts;
        for (ModelSyntax.Expr part : parts) {
            if (isSeveral(part, known, module)) {
                return true;
            }
        }
        for (ModelSyntax.Alternative alternative : expr.alternatives) {
            Set<String> inside = new HashSet<>(known);
            addNames(alternative.pattern, inside);
            if (isSeveral(alternative.expr, inside, module)) {
                return true;
            }
        }
        return false;
    }
}
