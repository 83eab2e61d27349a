import java.util.ArrayList;
import java.util.HashMap;
import java.util.IdentityHashMap;
import java.util.List;
import java.util.Map;

/** TYPES, as the model judges and prints them. */
final class ModelTypes {
    /** An unknown has no name; it may be the same as another type. What is rigid is a type of its own. */
    static final class T {
        private final String name;
        private final boolean rigid;
        private final List<T> parts;
        private T same;

        private T(String name, boolean rigid, List<T> parts) {
            this.name = name;
            this.rigid = rigid;
            this.parts = parts;
        }

        private boolean isUnknown() {
            return name == null && !rigid;
        }
    }

    private final ModelSyntax.Module module;

    private ModelTypes(ModelSyntax.Module module) {
        this.module = module;
    }

    static void judge(List<Object> declarations, ModelSyntax.Module module) {
        ModelTypes types = new ModelTypes(module);
        for (Object d : declarations) {
            if (d instanceof ModelSyntax.Rule) {
                types.rule((ModelSyntax.Rule) d);
            }
        }
    }

    /** The type of a Query's Expr. */
    static T judge(ModelSyntax.Query query, ModelSyntax.Module module) {
        ModelTypes types = new ModelTypes(module);
        Map<String, T> known = new HashMap<>();
        T wanted = unknown();
        types.block(query.block, known);
        types.expr(query.expr, wanted, known);
        return wanted;
    }

    static T ofSignature(ModelSyntax.Function function) {
        return of(function.signature.type, new HashMap<>(), false);
    }

    private static T unknown() {
        return new T(null, false, List.of());
    }

    private static List<T> unknowns(int count) {
        List<T> all = new ArrayList<>();
        for (int i = 0; i < count; i++) {
            all.add(unknown());
        }
        return all;
    }

    private static T type(String name, T... parts) {
        return new T(name, false, List.of(parts));
    }

    private static T arrows(List<T> from, T to) {
        T type = to;
        for (int i = from.size() - 1; i >= 0; i--) {
            type = type("->", from.get(i), type);
        }
        return type;
    }

    private static T of(ModelSyntax.Type type, Map<String, T> names, boolean rigid) {
        if (type.sort.equals("NAME")) {
            return names.computeIfAbsent(type.name, name -> new T(null, rigid, List.of()));
        }
        List<T> parts = new ArrayList<>();
        for (ModelSyntax.Type part : type.parts) {
            parts.add(of(part, names, rigid));
        }
        return new T(type.name, false, parts);
    }

    private static T find(T type) {
        T found = type;
        while (found.same != null) {
            found = found.same;
        }
        return found;
    }

    private static boolean isWithin(T unknown, T type) {
        T found = find(type);
        if (found == unknown) {
            return true;
        }
        for (T part : found.parts) {
            if (isWithin(unknown, part)) {
                return true;
            }
        }
        return false;
    }

    private static boolean makeOne(T first, T second) {
        T left = find(first);
        T right = find(second);
        if (left == right) {
            return true;
        }
        if (!left.isUnknown() && right.isUnknown()) {
            return makeOne(right, left);
        }
        if (left.isUnknown()) {
            left.same = isWithin(left, right) ? null : right;
            return left.same != null;
        }
        if (left.rigid || right.rigid || !left.name.equals(right.name)) {
            return false;
        }
        for (int i = 0; i < left.parts.size(); i++) {
            if (!makeOne(left.parts.get(i), right.parts.get(i))) {
                return false;
            }
        }
        return true;
    }

    private static void want(T type, T wanted, int place) {
        if (!makeOne(type, wanted)) {
            throw new ModelFault(6, place);
        }
    }

    /** The type of a constructor's data, and behind it those of its parts. */
    private List<T> ofConstructor(ModelSyntax.Constructor c) {
        List<T> types = new ArrayList<>();
        Map<String, T> names = new HashMap<>();
        if (!module.data.containsValue(c.data)) {
            List<T> parts = unknowns(c.data.name.equals("[]") ? 1 : c.takes());
            T whole = new T(c.data.name, false, parts);
            types.add(whole);
            types.addAll(c.name.equals("[]") ? List.of() : parts);
            if (c.name.equals(":")) {
                types.add(whole);
            }
            return types;
        }
        List<T> parts = unknowns(c.data.names.size());
        for (int i = 0; i < parts.size(); i++) {
            names.put(c.data.names.get(i).text, parts.get(i));
        }
        types.add(new T(c.data.name, false, parts));
        for (ModelSyntax.Type part : c.parts) {
            types.add(of(part, names, false));
        }
        return types;
    }

    private void rule(ModelSyntax.Rule rule) {
        T type = of(rule.function.signature.type, new HashMap<>(), true);
        Map<String, T> known = new HashMap<>();
        for (ModelSyntax.Pattern pattern : rule.patterns) {
            pattern(pattern, type.parts.get(0), known);
            type = type.parts.get(1);
        }
        block(rule.block, known);
        for (ModelSyntax.Guard guard : rule.guards) {
            expr(guard.guard, type("Bool"), known);
            expr(guard.expr, type, known);
        }
        if (rule.expr != null) {
            expr(rule.expr, type, known);
        }
    }

    private void block(List<ModelSyntax.Local> block, Map<String, T> known) {
        for (ModelSyntax.Local local : block) {
            T type = unknown();
            if (local.expr != null) {
                expr(local.expr, type, known);
                known.put(local.names.get(0).text, type);
                continue;
            }
            for (ModelToken name : local.names) {
                known.put(name.text, unknown());
            }
        }
    }

    private void pattern(ModelSyntax.Pattern pattern, T wanted, Map<String, T> known) {
        if (pattern.tellsName()) {
            known.put(pattern.name, wanted);
        }
        if (pattern.is("AS")) {
            pattern(pattern.parts.get(0), wanted, known);
        } else if (pattern.is("INT")) {
            want(type("Int"), wanted, pattern.place);
        } else if (pattern.is("CON")) {
            List<T> types = ofConstructor(pattern.constructor);
            want(types.get(0), wanted, pattern.place);
            for (int i = 0; i < pattern.parts.size(); i++) {
                pattern(pattern.parts.get(i), types.get(i + 1), known);
            }
        }
    }

    private void expr(ModelSyntax.Expr expr, T wanted, Map<String, T> known) {
        switch (expr.sort) {
            case "NAME":
                T local = known.get(expr.name);
                want(local != null ? local : ofSignature(module.function.get(expr.name)), wanted, expr.place);
                break;
            case "BIG":
                List<T> types = ofConstructor(module.constructor.get(expr.name));
                want(arrows(types.subList(1, types.size()), types.get(0)), wanted, expr.place);
                break;
            case "INT":
                want(type("Int"), wanted, expr.place);
                break;
            case "SET":
                set(expr, wanted, known);
                break;
            case "LAMBDA":
                lambda(expr, wanted, new HashMap<>(known));
                break;
            case "SECTION":
                section(expr, wanted, known);
                break;
            case "LET":
                Map<String, T> inLet = new HashMap<>(known);
                block(expr.block, inLet);
                expr(expr.part(0), wanted, inLet);
                break;
            case "IF":
                all(expr.parts, List.of(type("Bool"), wanted, wanted), known);
                break;
            case "CASE": case "FCASE":
                cases(expr, wanted, known);
                break;
            default:
                applied(expr, wanted, known);
        }
    }

    private void all(List<ModelSyntax.Expr> exprs, List<T> wanted, Map<String, T> known) {
        for (int i = 0; i < exprs.size(); i++) {
            expr(exprs.get(i), wanted.get(i), known);
        }
    }

    /** Atoms behind a head, tuples and lists. */
    private void applied(ModelSyntax.Expr expr, T wanted, Map<String, T> known) {
        int count = expr.parts.size();
        if (expr.is("APPLY")) {
            List<T> atoms = unknowns(count - 1);
            expr(expr.part(0), arrows(atoms, wanted), known);
            all(expr.parts.subList(1, count), atoms, known);
            return;
        }
        boolean list = expr.is("LIST");
        List<T> parts = unknowns(list ? 1 : count);
        want(new T(list ? "[]" : count == 2 ? "(,)" : "(,,)", false, parts), wanted, expr.place);
        for (int i = 0; i < count; i++) {
            expr(expr.part(i), parts.get(list ? 0 : i), known);
        }
    }

    private void set(ModelSyntax.Expr set, T wanted, Map<String, T> known) {
        T result = unknown();
        want(type("[]", result), wanted, set.place);
        ModelSyntax.Expr name = set.part(0);
        List<T> atoms = unknowns(set.parts.size() - 1);
        want(ofSignature(module.function.get(name.name)), arrows(atoms, result), name.place);
        all(set.parts.subList(1, set.parts.size()), atoms, known);
    }

    private void lambda(ModelSyntax.Expr lambda, T wanted, Map<String, T> known) {
        List<T> names = unknowns(lambda.names.size());
        T result = unknown();
        want(arrows(names, result), wanted, lambda.place);
        for (int i = 0; i < names.size(); i++) {
            if (lambda.names.get(i).is("NAME")) {
                known.put(lambda.names.get(i).text, names.get(i));
            }
        }
        expr(lambda.part(0), result, known);
    }

    private void section(ModelSyntax.Expr section, T wanted, Map<String, T> known) {
        T left = unknown();
        T right = unknown();
        T result = unknown();
        want(type("->", left, result), wanted, section.place);
        all(section.parts, List.of(arrows(List.of(left, right), result), right), known);
    }

    private void cases(ModelSyntax.Expr cases, T wanted, Map<String, T> known) {
        T type = unknown();
        expr(cases.part(0), type, known);
        for (ModelSyntax.Alternative alternative : cases.alternatives) {
            Map<String, T> inside = new HashMap<>(known);
            pattern(alternative.pattern, type, inside);
            expr(alternative.expr, wanted, inside);
        }
    }

    // ---- PRINTED

    static String print(T type) {
        return print(type, "", new IdentityHashMap<>());
    }

    /** What is around: nothing, an arrow (it is the left side), or a BIG (it is behind that). */
    private static String print(T type, String around, Map<T, String> names) {
        T found = find(type);
        if (found.name == null) {
            int i = names.size();
            return names.computeIfAbsent(found, t -> (char) ('a' + i % 26) + (i < 26 ? "" : "" + i / 26));
        }
        switch (found.name) {
            case "->":
                String left = print(found.parts.get(0), "->", names);
                String arrow = left + " -> " + print(found.parts.get(1), "", names);
                return around.isEmpty() ? arrow : "(" + arrow + ")";
            case "[]":
                return "[" + print(found.parts.get(0), "", names) + "]";
            case "()": case "(,)": case "(,,)":
                List<String> parts = new ArrayList<>();
                for (T part : found.parts) {
                    parts.add(print(part, "", names));
                }
                return "(" + String.join(", ", parts) + ")";
            default:
                StringBuilder text = new StringBuilder(found.name);
                for (T part : found.parts) {
                    text.append(' ').append(print(part, "BIG", names));
                }
                return around.equals("BIG") && !found.parts.isEmpty() ? "(" + text + ")" : text.toString();
        }
    }
}
