import java.util.ArrayList;
import java.util.Arrays;
import java.util.HashMap;
import java.util.List;
import java.util.Map;
import java.util.Random;
import java.util.TreeMap;

/**
 * Modules with data, operators and functions of their own, and Queries in them, all made at random along types:
 * nearly all are good. Few NAMES are used again and again, so that inner ones hide outer ones.
 */
final class RandomPrograms {
    private static final String[] NAMES = {"x", "y", "z", "u", "v", "w", "p", "q", "xs", "ys", "g1", "h2"};
    private static final String[] OPERATORS = {"<+>", "|>", "%", "<:", "^^", "!", "~>"};

    /** A type: its name, and those behind it. NAMES of signatures are types without any. */
    private static final class Type {
        private final String name;
        private final Type[] parts;

        private Type(String name, Type... parts) {
            this.name = name;
            this.parts = parts;
        }

        private boolean isArrow() {
            return name.equals("->");
        }

        private boolean isVariable() {
            return Character.isLowerCase(name.charAt(0));
        }

        private boolean is(Type other) {
            return toString().equals(other.toString());
        }

        private Type with(Map<String, Type> known) {
            if (isVariable()) {
                return known.getOrDefault(name, this);
            }
            Type[] all = new Type[parts.length];
            for (int i = 0; i < all.length; i++) {
                all[i] = parts[i].with(known);
            }
            return new Type(name, all);
        }

        private String atom() {
            return isArrow() || (parts.length > 0 && Character.isUpperCase(name.charAt(0))) ? "(" + this + ")" : toString();
        }

        @Override
        public String toString() {
            switch (name) {
                case "->":
                    return (parts[0].isArrow() ? "(" + parts[0] + ")" : parts[0].toString()) + " -> " + parts[1];
                case "[]":
                    return "[" + parts[0] + "]";
                case "(,)": case "(,,)": case "()":
                    List<String> all = new ArrayList<>();
                    for (Type part : parts) {
                        all.add(part.toString());
                    }
                    return "(" + String.join(", ", all) + ")";
                default:
                    StringBuilder text = new StringBuilder(name);
                    for (Type part : parts) {
                        text.append(' ').append(part.atom());
                    }
                    return text.toString();
            }
        }
    }

    private static final Type INT = new Type("Int");
    private static final Type BOOL = new Type("Bool");

    /** A function or constructor: what it takes, and what comes of that; takes tells how many patterns its rules have. */
    private static final class Known {
        private final String name;
        private final Type type;
        private final int takes;

        private Known(String name, Type type, int takes) {
            this.name = name;
            this.type = type;
            this.takes = takes;
        }

        private boolean isOperator() {
            return "!#$%&*+./:<=>?@\\^|-~".indexOf(name.charAt(0)) >= 0;
        }

        private String atom() {
            return isOperator() ? "(" + name + ")" : name;
        }

        private String infix() {
            return isOperator() ? name : "`" + name + "`";
        }
    }

    private static final class Data {
        private final String name;
        private final List<String> params = new ArrayList<>();
        private final List<Known> constructors = new ArrayList<>();

        private Data(String name) {
            this.name = name;
        }
    }

    private final Random random;
    private final List<Data> datas = new ArrayList<>();
    private final List<Known> functions = new ArrayList<>();
    private final List<Known> own = new ArrayList<>();

    RandomPrograms(long seed) {
        random = new Random(seed);
        prelude();
    }

    int upTo(int count) {
        return random.nextInt(count);
    }

    private boolean seldom() {
        return upTo(4) == 0;
    }

    @SafeVarargs
    private <T> T one(T... all) {
        return all[upTo(all.length)];
    }

    private <T> T one(List<T> all) {
        return all.get(upTo(all.size()));
    }

    private static Type arrows(Type... types) {
        Type type = types[types.length - 1];
        for (int i = types.length - 2; i >= 0; i--) {
            type = new Type("->", types[i], type);
        }
        return type;
    }

    private static Type list(Type of) {
        return new Type("[]", of);
    }

    private void know(String name, Type... types) {
        functions.add(new Known(name, arrows(types), types.length - 1));
    }

    private void prelude() {
        Type a = new Type("a");
        Type b = new Type("b");
        Type c = new Type("c");
        for (String name : new String[] {"+", "-", "*", "div", "mod"}) {
            know(name, INT, INT, INT);
        }
        for (String name : new String[] {"<", "<=", ">", ">="}) {
            know(name, INT, INT, BOOL);
        }
        for (String name : new String[] {"==", "/=", "=:=", "=:=", "=:="}) {
            know(name, a, a, BOOL);
        }
        for (String name : new String[] {"&", "&", "&", "&&", "||"}) {
            know(name, BOOL, BOOL, BOOL);
        }
        know("not", BOOL, BOOL);
        know("?", a, a, a);
        know("&>", BOOL, a, a);
        know("&>", BOOL, a, a);
        functions.add(new Known("$", arrows(arrows(a, b), a, b), 2));
        functions.add(new Known(".", arrows(arrows(b, c), arrows(a, b), a, c), 2));
        know("++", list(a), list(a), list(a));
        functions.add(new Known("map", arrows(arrows(a, b), list(a), list(b)), 2));
        know("failed", a);
        know("span", INT, INT, INT, BOOL);
        know("differ", list(INT), BOOL);
        know("label", list(INT), BOOL);
    }

    // ---- Types

    private Type type(List<String> variables, int depth) {
        int kind = depth <= 0 ? upTo(5) : upTo(12);
        switch (kind) {
            case 0: case 1:
                return INT;
            case 2:
                return BOOL;
            case 3: case 4:
                return variables.isEmpty() ? one(INT, new Type("()")) : new Type(one(variables));
            case 5:
                return list(type(variables, depth - 1));
            case 6:
                return new Type("(,)", type(variables, depth - 1), type(variables, depth - 1));
            case 7:
                return seldom() ? new Type("(,,)", type(variables, depth - 1), type(variables, 0), type(variables, 0))
                        : arrows(type(variables, depth - 1), type(variables, depth - 1));
            default:
                return datas.isEmpty() ? INT : dataType(one(datas), variables, depth);
        }
    }

    private Type dataType(Data data, List<String> variables, int depth) {
        Type[] parts = new Type[data.params.size()];
        for (int i = 0; i < parts.length; i++) {
            parts[i] = type(variables, depth - 1);
        }
        return new Type(data.name, parts);
    }

    /** Makes a type with NAMES another one, if that can be. */
    private static boolean match(Type pattern, Type type, Map<String, Type> known) {
        if (pattern.isVariable()) {
            Type before = known.putIfAbsent(pattern.name, type);
            return before == null || before.is(type);
        }
        if (!pattern.name.equals(type.name) || pattern.parts.length != type.parts.length) {
            return false;
        }
        for (int i = 0; i < pattern.parts.length; i++) {
            if (!match(pattern.parts[i], type.parts[i], known)) {
                return false;
            }
        }
        return true;
    }

    private static void variables(Type type, List<String> into) {
        if (type.isVariable() && !into.contains(type.name)) {
            into.add(type.name);
        }
        for (Type part : type.parts) {
            variables(part, into);
        }
    }

    // ---- Modules

    String module() {
        StringBuilder text = new StringBuilder();
        for (int i = upTo(4); i > 0; i--) {
            datas.add(new Data("D" + i));
        }
        for (Data data : datas) {
            for (String param : List.of("a", "b").subList(0, upTo(3))) {
                data.params.add(param);
            }
        }
        for (Data data : datas) {
            text.append(declared(data)).append('\n');
        }
        for (int i = 1 + upTo(5); i > 0; i--) {
            own.add(signature(i));
        }
        functions.addAll(own);
        functions.addAll(own);
        for (Known f : own) {
            if (f.takes >= 2 && upTo(3) > 0) {
                text.append(one("infixl ", "infixr ", "infix ")).append(upTo(10)).append(' ').append(f.infix()).append('\n');
            }
        }
        for (Known f : own) {
            text.append(f.atom()).append(" :: ").append(f.type).append('\n');
            for (int rules = upTo(5); rules > 0; rules--) {
                text.append(rule(f)).append('\n');
            }
        }
        return text.toString();
    }

    private String declared(Data data) {
        List<String> texts = new ArrayList<>();
        Type[] params = new Type[data.params.size()];
        for (int i = 0; i < params.length; i++) {
            params[i] = new Type(data.params.get(i));
        }
        Type whole = new Type(data.name, params);
        int count = 1 + upTo(4);
        for (int i = 0; i < count; i++) {
            Type[] types = new Type[upTo(i == 0 ? 2 : 4) + 1];
            StringBuilder text = new StringBuilder("C" + data.name + i);
            for (int j = 0; j < types.length - 1; j++) {
                types[j] = type(data.params, 1);
                text.append(' ').append(types[j].atom());
            }
            types[types.length - 1] = whole;
            data.constructors.add(new Known("C" + data.name + i, arrows(types), types.length - 1));
            texts.add(text.toString());
        }
        return "data " + data.name + " " + String.join(" ", data.params) + " = " + String.join(" | ", texts);
    }

    private Known signature(int number) {
        List<String> variables = upTo(3) == 0 ? List.of("a", "b") : List.of();
        Type[] types = new Type[1 + upTo(4)];
        for (int i = 0; i < types.length; i++) {
            types[i] = type(variables, 2);
        }
        boolean operator = types.length >= 3 && upTo(3) == 0 && number < OPERATORS.length;
        int takes = operator ? 2 : types.length - 1 - (types.length > 1 && seldom() ? 1 : 0);
        String name = number <= 2 ? one("g", "h", "k") + number : "f" + number;
        return new Known(operator ? OPERATORS[number] : name, arrows(types), takes);
    }

    private String rule(Known f) {
        Map<String, Type> known = new HashMap<>();
        List<String> used = new ArrayList<>();
        List<String> patterns = new ArrayList<>();
        Type type = f.type;
        for (int i = 0; i < f.takes; i++) {
            patterns.add(bracketed(pattern(type.parts[0], known, used, 2)));
            type = type.parts[1];
        }
        boolean infix = f.takes == 2 && (f.isOperator() || seldom());
        String left = infix ? patterns.get(0) + " " + f.infix() + " " + patterns.get(1)
                : f.name + (patterns.isEmpty() ? "" : " " + String.join(" ", patterns));
        String block = seldom() ? " where " + block(known, 2) : "";
        if (upTo(5) == 0) {
            StringBuilder text = new StringBuilder(left);
            for (int guards = 1 + upTo(3); guards > 0; guards--) {
                text.append(" | ").append(expr(BOOL, known, 2)).append(" = ").append(expr(type, known, 2));
            }
            return text + block;
        }
        return left + " = " + expr(type, known, 3) + block;
    }

    private static String bracketed(String text) {
        return RandomTexts.inBrackets(text);
    }

    private String name(Map<String, Type> known, List<String> used, Type type) {
        String name = one(NAMES);
        while (used.contains(name)) {
            name += "'";
        }
        used.add(name);
        known.put(name, type);
        return name;
    }

    private String pattern(Type type, Map<String, Type> known, List<String> used, int depth) {
        int kind = upTo(9);
        if (kind < 3 || type.isArrow() || type.isVariable() || (depth <= 0 && kind < 7)) {
            return kind == 0 ? "_" : name(known, used, type);
        }
        if (kind == 3) {
            return name(known, used, type) + "@" + bracketed(pattern(type, known, used, depth));
        }
        switch (type.name) {
            case "Int":
                return "" + upTo(3);
            case "Bool":
                return one("True", "False");
            case "()":
                return "()";
            case "(,)": case "(,,)":
                return "(" + patterns(type.parts, known, used, depth) + ")";
            case "[]":
                return listPattern(type, known, used, depth);
            default:
                return dataPattern(type, known, used, depth);
        }
    }

    private String patterns(Type[] types, Map<String, Type> known, List<String> used, int depth) {
        List<String> all = new ArrayList<>();
        for (Type type : types) {
            all.add(pattern(type, known, used, depth - 1));
        }
        return String.join(", ", all);
    }

    private String listPattern(Type type, Map<String, Type> known, List<String> used, int depth) {
        Type[] parts = new Type[upTo(3)];
        Arrays.fill(parts, type.parts[0]);
        if (upTo(2) == 0) {
            return "[" + patterns(parts, known, used, depth) + "]";
        }
        return bracketed(pattern(type.parts[0], known, used, depth - 1)) + " : " + pattern(type, known, used, depth - 1);
    }

    private String dataPattern(Type type, Map<String, Type> known, List<String> used, int depth) {
        Data data = data(type);
        Known constructor = one(data.constructors);
        StringBuilder text = new StringBuilder(constructor.name);
        Type rest = constructor.type.with(arguments(data, type));
        for (int i = 0; i < constructor.takes; i++) {
            text.append(' ').append(bracketed(pattern(rest.parts[0], known, used, depth - 1)));
            rest = rest.parts[1];
        }
        return text.toString();
    }

    private Data data(Type type) {
        for (Data data : datas) {
            if (data.name.equals(type.name)) {
                return data;
            }
        }
        throw new IllegalStateException(type.toString());
    }

    private static Map<String, Type> arguments(Data data, Type type) {
        Map<String, Type> known = new HashMap<>();
        for (int i = 0; i < type.parts.length; i++) {
            known.put(data.params.get(i), type.parts[i]);
        }
        return known;
    }

    // ---- Queries

    String query(int depth) {
        Map<String, Type> known = new HashMap<>();
        String block = upTo(4) == 0 ? "" : " where " + block(known, depth);
        String expr = expr(type(List.of(), 2), known, depth);
        for (int i = upTo(5) - 2; i > 0; i--) {
            expr = bracketed(expr(BOOL, known, depth - 1)) + one(" &> ", " &> ") + bracketed(expr);
        }
        return expr + block;
    }

    private String block(Map<String, Type> known, int depth) {
        List<String> used = new ArrayList<>();
        List<String> all = new ArrayList<>();
        for (int i = 1 + upTo(4); i > 0; i--) {
            Type type = type(List.of(), 1);
            if (upTo(2) == 0) {
                String expr = expr(type, known, depth - 1);
                all.add(name(known, used, type) + " = " + expr);
            } else if (upTo(2) == 0) {
                all.add(name(known, used, type) + ", " + name(known, used, INT) + " free");
            } else {
                all.add(name(known, used, type) + " free");
            }
        }
        return "{" + String.join("; ", all) + "}";
    }

    private String atom(Type type, Map<String, Type> known, int depth) {
        return bracketed(expr(type, known, depth));
    }

    private String expr(Type type, Map<String, Type> known, int depth) {
        int kind = depth <= 0 ? 0 : upTo(24);
        switch (kind) {
            case 0: case 1: case 2: case 3: case 4:
                return leaf(type, known, depth);
            case 5:
                return "if " + expr(BOOL, known, depth - 1) + " then " + expr(type, known, depth - 1) + " else "
                        + expr(type, known, depth - 1);
            case 6:
                Map<String, Type> inside = new HashMap<>(known);
                return "let " + block(inside, depth - 1) + " in " + expr(type, inside, depth - 1);
            case 7: case 8:
                return cases(type, known, depth);
            case 9:
                return row(type, known, depth);
            case 16: case 17:
                return local(type, known, depth);
            case 10: case 11: case 12: case 13: case 14: case 15:
                return called(functions, type, known, depth);
            default:
                return made(type, known, depth);
        }
    }

    /** A Row without brackets. */
    private String row(Type type, Map<String, Type> known, int depth) {
        String[] ops = type.is(INT) ? new String[] {" + ", " - ", " * ", " + ", " - ", " `div` ", " `mod` "}
                : type.is(BOOL) ? new String[] {" & ", " && ", " || ", " & "} : type.name.equals("[]") ? new String[] {" ++ "}
                : new String[] {" ? "};
        StringBuilder text = new StringBuilder(atom(type, known, depth - 1));
        for (int i = ops.length == 1 && !type.name.equals("[]") ? 1 : 1 + upTo(3); i > 0; i--) {
            text.append(one(ops)).append(atom(type, known, depth - 1));
        }
        return type.name.equals("[]") ? atom(type.parts[0], known, depth - 1) + " : " + text : text.toString();
    }

    private String cases(Type type, Map<String, Type> known, int depth) {
        Type on = type(List.of(), 1);
        List<String> all = new ArrayList<>();
        for (int i = 1 + upTo(3); i > 0; i--) {
            Map<String, Type> inside = new HashMap<>(known);
            String pattern = pattern(on, inside, new ArrayList<>(), 2);
            all.add(pattern + " -> " + expr(type, inside, depth - 1));
        }
        return one("case ", "fcase ") + expr(on, known, depth - 1) + " of {" + String.join("; ", all) + "}";
    }

    /** A NAME that is known, with as many Atoms that the type comes of it; with two of them sometimes in between. */
    private String local(Type type, Map<String, Type> known, int depth) {
        List<String> names = new ArrayList<>(new TreeMap<>(known).keySet());
        for (int i = 0; i < 8 && !names.isEmpty(); i++) {
            String name = one(names);
            Type rest = known.get(name);
            List<String> atoms = new ArrayList<>();
            while (rest.isArrow() && !rest.is(type)) {
                atoms.add(atom(rest.parts[0], known, depth - 1));
                rest = rest.parts[1];
            }
            if (rest.is(type)) {
                return atoms.size() == 2 && upTo(2) == 0 ? atoms.get(0) + " `" + name + "` " + atoms.get(1)
                        : name + (atoms.isEmpty() ? "" : " " + String.join(" ", atoms));
            }
        }
        return leaf(type, known, depth);
    }

    /** One of those told with as many Atoms that the type comes of it; sometimes in a section. */
    private String called(List<Known> from, Type type, Map<String, Type> known, int depth) {
        for (int i = 0; i < 12; i++) {
            Known f = one(from);
            Type rest = f.type;
            List<Type> wanted = new ArrayList<>();
            while (true) {
                Map<String, Type> matched = new HashMap<>();
                if (!(rest.isVariable() && upTo(2) == 0) && match(rest, type, matched)) {
                    return applied(f, wanted, matched, known, depth);
                }
                if (!rest.isArrow()) {
                    break;
                }
                wanted.add(rest.parts[0]);
                rest = rest.parts[1];
            }
        }
        return leaf(type, known, depth);
    }

    private String applied(Known f, List<Type> wanted, Map<String, Type> matched, Map<String, Type> known, int depth) {
        List<String> atoms = new ArrayList<>();
        for (Type type : wanted) {
            List<String> open = new ArrayList<>();
            variables(type, open);
            for (String variable : open) {
                matched.computeIfAbsent(variable, v -> type(List.of(), 1));
            }
            atoms.add(atom(type.with(matched), known, depth - 1));
        }
        if (atoms.size() == 2 && (f.isOperator() || seldom())) {
            return atoms.get(0) + " " + f.infix() + " " + atoms.get(1);
        }
        if (atoms.size() == 0 && matched.isEmpty() && f.type.isArrow() && f.type.parts[1].isArrow() && upTo(3) == 0) {
            return "(" + f.infix() + " )";
        }
        if (atoms.size() == 1 && f.takes == 2 && upTo(2) == 0) {
            return "(" + atoms.get(0) + " " + f.infix() + ")";
        }
        return f.atom() + (atoms.isEmpty() ? "" : " " + String.join(" ", atoms));
    }

    private String leaf(Type type, Map<String, Type> known, int depth) {
        List<String> all = new ArrayList<>();
        for (Map.Entry<String, Type> entry : new TreeMap<>(known).entrySet()) {
            if (entry.getValue().is(type)) {
                all.add(entry.getKey());
                all.add(entry.getKey());
            }
        }
        if (all.isEmpty() || seldom()) {
            all.add(made(type, known, Math.min(depth, 0)));
        }
        return one(all);
    }

    /** By what a type is made of: constructors, lambdas, lists. */
    private String made(Type type, Map<String, Type> known, int depth) {
        if (depth < -2) {
            return "failed";
        }
        switch (type.name) {
            case "Int":
                return depth > 0 ? number(known, depth) : "" + upTo(4);
            case "Bool":
                return depth > 0 ? truth(known, depth) : one("True", "True", "True", "False");
            case "()":
                return "()";
            case "(,)": case "(,,)":
                return "(" + exprs(type.parts, known, depth) + ")";
            case "[]":
                return made(type, type.parts[0], known, depth);
            case "->":
                return function(type, known, depth);
            default:
                return type.isVariable() ? "failed" : constructed(type, known, depth);
        }
    }

    private String exprs(Type[] types, Map<String, Type> known, int depth) {
        List<String> all = new ArrayList<>();
        for (Type type : types) {
            all.add(expr(type, known, depth - 1));
        }
        return String.join(", ", all);
    }

    private String number(Map<String, Type> known, int depth) {
        return row(INT, known, depth);
    }

    private String truth(Map<String, Type> known, int depth) {
        switch (upTo(8)) {
            case 0: case 1: case 2:
                Type type = type(List.of(), 1);
                return atom(type, known, depth - 1) + one(" =:= ", " =:= ", " == ", " /= ") + atom(type, known, depth - 1);
            case 3:
                return "span " + atom(INT, known, 0) + " " + upTo(3) + " " + upTo(5);
            case 4:
                return one("label [", "differ [") + expr(INT, known, 0) + ", " + expr(INT, known, 0) + "]";
            case 5:
                return one("atMost ", "equalTo ") + one("[1,2]", "[1,1]", "[2,0]") + " [" + expr(INT, known, 0) + ", "
                        + expr(INT, known, 0) + "] " + upTo(6);
            default:
                return row(BOOL, known, depth);
        }
    }

    private String made(Type list, Type of, Map<String, Type> known, int depth) {
        switch (depth > 0 ? upTo(6) : upTo(2)) {
            case 0:
                return "[]";
            case 1:
                return "[" + expr(of, known, depth - 1) + "]";
            case 2:
                return "[" + expr(of, known, depth - 1) + ", " + expr(of, known, depth - 1) + "]";
            case 3:
                return atom(of, known, depth - 1) + " : " + atom(list, known, depth - 1);
            default:
                return capsule(of, known, depth);
        }
    }

    /** set with a function that answers the type: it needs just what that takes. */
    private String capsule(Type of, Map<String, Type> known, int depth) {
        for (int i = 0; i < 12; i++) {
            Known f = one(functions);
            Type rest = f.type;
            List<Type> wanted = new ArrayList<>();
            for (int j = 0; j < f.takes; j++) {
                wanted.add(rest.parts[0]);
                rest = rest.parts[1];
            }
            Map<String, Type> matched = new HashMap<>();
            if (!f.isOperator() && match(rest, of, matched)) {
                StringBuilder text = new StringBuilder("set " + f.name);
                for (Type type : wanted) {
                    List<String> open = new ArrayList<>();
                    variables(type, open);
                    for (String variable : open) {
                        matched.computeIfAbsent(variable, v -> INT);
                    }
                    text.append(' ').append(atom(type.with(matched), known, depth - 1));
                }
                return text.toString();
            }
        }
        return "[]";
    }

    /** (Op e), if there is one with such a type. */
    private String section(Type type, Map<String, Type> known, int depth) {
        for (int i = 0; i < 12; i++) {
            Known f = one(functions);
            Map<String, Type> matched = new HashMap<>();
            boolean good = f.type.isArrow() && f.type.parts[1].isArrow();
            if (good && match(new Type("->", f.type.parts[0], f.type.parts[1].parts[1]), type, matched)) {
                Type right = f.type.parts[1].parts[0];
                List<String> open = new ArrayList<>();
                variables(right, open);
                for (String variable : open) {
                    matched.computeIfAbsent(variable, v -> INT);
                }
                return "(" + f.infix() + " " + atom(right.with(matched), known, depth - 1) + ")";
            }
        }
        return leaf(type, known, depth);
    }

    private String function(Type type, Map<String, Type> known, int depth) {
        if (upTo(5) == 0 && depth > 0) {
            return section(type, known, depth);
        }
        if (upTo(3) == 0) {
            return called(functions, type, known, Math.max(0, depth));
        }
        Map<String, Type> inside = new HashMap<>(known);
        List<String> used = new ArrayList<>();
        StringBuilder text = new StringBuilder("\\");
        Type rest = type;
        do {
            text.append(seldom() ? "_" : name(inside, used, rest.parts[0])).append(' ');
            rest = rest.parts[1];
        } while (rest.isArrow() && upTo(2) == 0);
        return text + "-> " + expr(rest, inside, depth - 1);
    }

    private String constructed(Type type, Map<String, Type> known, int depth) {
        Data data = data(type);
        Known constructor = depth > 0 ? one(data.constructors) : data.constructors.get(0);
        StringBuilder text = new StringBuilder(constructor.name);
        Type rest = constructor.type.with(arguments(data, type));
        for (int i = 0; i < constructor.takes; i++) {
            text.append(' ').append(atom(rest.parts[0], known, depth - 1));
            rest = rest.parts[1];
        }
        return text.toString();
    }
}
