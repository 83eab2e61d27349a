import java.util.ArrayList;
import java.util.HashSet;
import java.util.List;
import java.util.Set;
import java.util.TreeMap;

/** NAMES, STRENGTHS and COUNTS of a text, as the model judges them: the least place of each kind is kept. */
final class ModelNames {
    private static final int NAMES = 3;
    private static final int STRENGTHS = 4;
    private static final int COUNTS = 5;

    private final ModelSyntax.Module module;
    private final Set<String> signed = new HashSet<>();
    private final TreeMap<Integer, Integer> least = new TreeMap<>();

    private ModelNames(ModelSyntax.Module module) {
        this.module = module;
    }

    /** Puts declarations into a module; faults of the prelude are none. */
    static void declare(List<Object> declarations, ModelSyntax.Module module, boolean prelude) {
        ModelNames names = new ModelNames(module);
        names.module(declarations);
        if (!prelude) {
            names.tell();
        }
    }

    static void check(ModelSyntax.Query query, ModelSyntax.Module module) {
        ModelNames names = new ModelNames(module);
        if (query.tokens > 2000) {
            names.fault(COUNTS, query.first);
        }
        Set<String> known = new HashSet<>();
        names.block(query.block, known);
        names.expr(query.expr, known);
        names.tell();
    }

    private void fault(int kind, int place) {
        least.merge(kind, place, Math::min);
    }

    private void faultIf(boolean so, int kind, int place) {
        if (so) {
            fault(kind, place);
        }
    }

    private void tell() {
        if (!least.isEmpty()) {
            throw new ModelFault(least.firstKey(), least.firstEntry().getValue());
        }
    }

    private void module(List<Object> declarations) {
        for (Object d : declarations) {
            if (d instanceof ModelSyntax.Data) {
                declare((ModelSyntax.Data) d);
            } else if (d instanceof ModelSyntax.Signature) {
                declare((ModelSyntax.Signature) d);
            }
        }
        List<ModelSyntax.Rule> rules = new ArrayList<>();
        for (Object d : declarations) {
            if (d instanceof ModelSyntax.Data) {
                data((ModelSyntax.Data) d);
            } else if (d instanceof ModelSyntax.Signature) {
                ModelSyntax.Signature s = (ModelSyntax.Signature) d;
                faultIf(s.tokens > 60, COUNTS, s.place);
                type(s.type, null);
            } else if (d instanceof ModelSyntax.Infix) {
                infix((ModelSyntax.Infix) d);
            } else {
                rules.add((ModelSyntax.Rule) d);
            }
        }
        for (int i = 0; i < rules.size(); i++) {
            side(rules.get(i), i == 0 ? "" : rules.get(i - 1).name);
        }
        for (ModelSyntax.Rule rule : rules) {
            rule(rule);
        }
    }

    private void declare(ModelSyntax.Data data) {
        boolean told = data.name.equals("Int") || module.data.containsKey(data.name);
        faultIf(told, NAMES, data.place);
        if (!told) {
            module.data.put(data.name, data);
        }
        for (ModelSyntax.Constructor c : data.constructors) {
            faultIf(module.constructor.putIfAbsent(c.name, c) != null, NAMES, c.place);
        }
    }

    private void declare(ModelSyntax.Signature signature) {
        if (module.function.containsKey(signature.name)) {
            fault(NAMES, signature.place);
            return;
        }
        ModelSyntax.Function function = new ModelSyntax.Function(signature.name, signature);
        function.takes = Math.min(16, signature.arrows());
        module.function.put(signature.name, function);
        module.functions.add(function);
        signed.add(signature.name);
    }

    private void data(ModelSyntax.Data data) {
        Set<String> names = new HashSet<>();
        for (ModelToken name : data.names) {
            faultIf(!names.add(name.text), NAMES, name.place);
        }
        faultIf(data.names.size() > 8, COUNTS, data.place);
        for (ModelSyntax.Constructor c : data.constructors) {
            faultIf(c.tokens > 60 || c.takes() > 16, COUNTS, c.place);
            for (ModelSyntax.Type part : c.parts) {
                type(part, names);
            }
        }
    }

    /** The names that there can be are told for a data alone. */
    private void type(ModelSyntax.Type type, Set<String> names) {
        if (type.sort.equals("BIG")) {
            boolean isInt = type.name.equals("Int");
            ModelSyntax.Data data = module.data.get(type.name);
            faultIf(!isInt && data == null, NAMES, type.place);
            int takes = isInt ? 0 : data == null ? type.parts.size() : data.names.size();
            faultIf(type.parts.size() != takes, COUNTS, type.place);
        }
        faultIf(type.sort.equals("NAME") && names != null && !names.contains(type.name), NAMES, type.place);
        for (ModelSyntax.Type part : type.parts) {
            type(part, names);
        }
    }

    private void infix(ModelSyntax.Infix infix) {
        for (ModelSyntax.Op op : infix.ops) {
            faultIf(module.infix.putIfAbsent(op.name, infix) != null, NAMES, op.place);
            faultIf(!signed.contains(op.name), NAMES, op.place);
        }
    }

    /** The left side of a rule: whose it is, and how much it takes. */
    private void side(ModelSyntax.Rule rule, String before) {
        faultIf(rule.patterns.size() > 16, COUNTS, rule.place);
        faultIf(rule.tokens > 2000, COUNTS, rule.first);
        if (!signed.contains(rule.name)) {
            fault(NAMES, rule.place);
            return;
        }
        ModelSyntax.Function function = module.function.get(rule.name);
        rule.function = function;
        if (function.rules.isEmpty()) {
            function.takes = rule.patterns.size();
        } else {
            faultIf(!before.equals(rule.name), NAMES, rule.place);
        }
        function.rules.add(rule);
        rule.number = function.rules.size();
        boolean good = rule.patterns.size() == function.takes && function.takes <= function.signature.arrows();
        faultIf(!good || rule.number > 300, COUNTS, rule.place);
    }

    private void rule(ModelSyntax.Rule rule) {
        Set<String> known = new HashSet<>();
        int heads = 0;
        for (ModelSyntax.Pattern pattern : rule.patterns) {
            heads += pattern(pattern, known);
        }
        faultIf(heads > 60, COUNTS, rule.first);
        block(rule.block, known);
        for (ModelSyntax.Expr expr : rule.exprs()) {
            expr(expr, known);
        }
    }

    /** Answers how many constructors and INTS there are. */
    private int pattern(ModelSyntax.Pattern pattern, Set<String> told) {
        int heads = 0;
        if (pattern.tellsName()) {
            faultIf(!told.add(pattern.name), NAMES, pattern.place);
        } else if (pattern.is("BIG")) {
            pattern.sort = "CON";
            pattern.constructor = module.constructor.get(pattern.name);
            faultIf(pattern.constructor == null, NAMES, pattern.place);
            boolean counts = pattern.constructor == null || pattern.constructor.takes() == pattern.parts.size();
            faultIf(!counts, COUNTS, pattern.place);
            heads = 1;
        } else if (pattern.is("CON")) {
            pattern.constructor = module.constructor.get(pattern.name);
            heads = 1;
        } else if (pattern.is("INT")) {
            heads = 1;
        }
        for (ModelSyntax.Pattern part : pattern.parts) {
            heads += pattern(part, told);
        }
        return heads;
    }

    private void block(List<ModelSyntax.Local> block, Set<String> known) {
        Set<String> told = new HashSet<>();
        for (ModelSyntax.Local local : block) {
            if (local.expr != null) {
                expr(local.expr, known);
            }
            for (ModelToken name : local.names) {
                faultIf(!told.add(name.text), NAMES, name.place);
                known.add(name.text);
            }
        }
    }

    private void expr(ModelSyntax.Expr expr, Set<String> known) {
        switch (expr.sort) {
            case "NAME":
                name(expr.name, expr.place, known);
                break;
            case "BIG":
                faultIf(!module.constructor.containsKey(expr.name), NAMES, expr.place);
                break;
            case "SET":
                set(expr, known);
                break;
            case "ROW":
                row(expr, known);
                break;
            case "LAMBDA":
                lambda(expr, new HashSet<>(known));
                break;
            case "LET":
                Set<String> inLet = new HashSet<>(known);
                block(expr.block, inLet);
                expr(expr.part(0), inLet);
                break;
            case "CASE": case "FCASE":
                expr(expr.part(0), known);
                for (ModelSyntax.Alternative alternative : expr.alternatives) {
                    alternative(alternative, new HashSet<>(known));
                }
                break;
            default:
                for (ModelSyntax.Expr part : expr.parts) {
                    expr(part, known);
                }
        }
    }

    private void name(String name, int place, Set<String> known) {
        faultIf(!known.contains(name) && !module.function.containsKey(name), NAMES, place);
    }

    private void set(ModelSyntax.Expr set, Set<String> known) {
        ModelSyntax.Expr name = set.part(0);
        ModelSyntax.Function function = module.function.get(name.name);
        faultIf(function == null, NAMES, name.place);
        faultIf(function != null && function.takes != set.parts.size() - 1, COUNTS, set.place);
        for (ModelSyntax.Expr atom : set.parts.subList(1, set.parts.size())) {
            expr(atom, known);
        }
    }

    private void lambda(ModelSyntax.Expr lambda, Set<String> known) {
        faultIf(lambda.names.size() > 16, COUNTS, lambda.place);
        Set<String> told = new HashSet<>();
        for (ModelToken name : lambda.names) {
            if (name.is("NAME")) {
                faultIf(!told.add(name.text), NAMES, name.place);
                known.add(name.text);
            }
        }
        expr(lambda.part(0), known);
    }

    private void alternative(ModelSyntax.Alternative alternative, Set<String> known) {
        Set<String> told = new HashSet<>();
        faultIf(pattern(alternative.pattern, told) > 60, COUNTS, alternative.place);
        known.addAll(told);
        expr(alternative.expr, known);
    }

    private void row(ModelSyntax.Expr row, Set<String> known) {
        for (ModelSyntax.Expr operand : row.parts) {
            expr(operand, known);
        }
        boolean shaped = true;
        for (int i = 0; i < row.ops.size(); i++) {
            ModelSyntax.Op op = row.ops.get(i);
            if (!op.name.equals(":")) {
                name(op.name, op.place, known);
            }
            boolean good = hasSides(row.ops, i);
            faultIf(!good, STRENGTHS, op.place);
            shaped = shaped && good;
        }
        if (shaped) {
            ModelSyntax.Expr shape = shape(row.parts, row.ops);
            row.sort = shape.sort;
            row.parts = shape.parts;
            row.place = shape.place;
        }
    }

    private ModelSyntax.Infix infixOf(ModelSyntax.Op op) {
        ModelSyntax.Infix infix = module.infix.get(op.name);
        return infix == null ? new ModelSyntax.Infix(9, "infixl") : infix;
    }

    /** Whether an Op goes together with those ahead that have its strength and only stronger ones between. */
    private boolean hasSides(List<ModelSyntax.Op> ops, int at) {
        ModelSyntax.Infix here = infixOf(ops.get(at));
        for (int i = at - 1; i >= 0; i--) {
            ModelSyntax.Infix other = infixOf(ops.get(i));
            if (other.strength < here.strength) {
                return true;
            }
            if (other.strength == here.strength) {
                return other.side.equals(here.side) && !here.side.equals("infix");
            }
        }
        return true;
    }

    /** The weakest Op is worked out last: of several that are left the last one, else the first one. */
    private ModelSyntax.Expr shape(List<ModelSyntax.Expr> operands, List<ModelSyntax.Op> ops) {
        if (ops.isEmpty()) {
            return operands.get(0);
        }
        int weakest = 0;
        for (int i = 1; i < ops.size(); i++) {
            ModelSyntax.Infix here = infixOf(ops.get(i));
            int least = infixOf(ops.get(weakest)).strength;
            if (here.strength < least || (here.strength == least && here.side.equals("infixl"))) {
                weakest = i;
            }
        }
        ModelSyntax.Op op = ops.get(weakest);
        ModelSyntax.Expr whole = new ModelSyntax.Expr("APPLY", "", op.place);
        whole.parts.add(ModelParser.named(op));
        whole.parts.add(shape(operands.subList(0, weakest + 1), ops.subList(0, weakest)));
        whole.parts.add(shape(operands.subList(weakest + 1, operands.size()), ops.subList(weakest + 1, ops.size())));
        return whole;
    }
}
