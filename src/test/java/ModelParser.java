import java.util.ArrayList;
import java.util.List;

/** GRAMMAR, as the model reads it: each method reads what its name tells, from the next token on. */
final class ModelParser {
    private final List<ModelToken> tokens;
    private int at;
    private int open;

    ModelParser(String text) {
        tokens = ModelToken.read(text);
    }

    private ModelToken look() {
        return tokens.get(Math.min(at, tokens.size() - 1));
    }

    private boolean is(String sort) {
        return at < tokens.size() && tokens.get(at).is(sort);
    }

    private boolean isBehind(String sort) {
        return at + 1 < tokens.size() && tokens.get(at + 1).is(sort);
    }

    private ModelFault bad() {
        return new ModelFault(2, look().place);
    }

    private ModelToken take(String sort) {
        if (!is(sort)) {
            throw bad();
        }
        at++;
        return tokens.get(at - 1);
    }

    private boolean takeIf(String sort) {
        if (is(sort)) {
            at++;
            return true;
        }
        return false;
    }

    private void opens(String sort) {
        if (open == 30) {
            throw bad();
        }
        take(sort);
        open++;
    }

    private void closes(String sort) {
        take(sort);
        open--;
    }

    List<Object> module() {
        List<Object> declarations = new ArrayList<>();
        while (tokens.size() > 1 && at < tokens.size()) {
            declarations.add(declaration());
            take("END");
        }
        return declarations;
    }

    ModelSyntax.Query query() {
        ModelSyntax.Query query = new ModelSyntax.Query(look().place);
        query.expr = expr();
        if (takeIf("where")) {
            query.block = block();
        }
        query.tokens = at;
        take("END");
        if (at < tokens.size()) {
            throw bad();
        }
        return query;
    }

    private Object declaration() {
        if (is("data")) {
            return data();
        }
        if (is("infixl") || is("infixr") || is("infix")) {
            return infix();
        }
        boolean bracketed = is("(") && isBehind("OPERATOR") && !tokens.get(at + 1).isColon();
        return bracketed || (is("NAME") && isBehind("::")) ? signature(bracketed) : rule();
    }

    private ModelSyntax.Data data() {
        take("data");
        ModelToken name = take("BIG");
        ModelSyntax.Data data = new ModelSyntax.Data(name.text, name.place);
        while (is("NAME")) {
            data.names.add(take("NAME"));
        }
        take("=");
        do {
            int from = at;
            ModelToken big = take("BIG");
            ModelSyntax.Constructor c = new ModelSyntax.Constructor(big.text, big.place, data);
            c.parts.addAll(atomicTypes());
            c.tokens = at - from;
        } while (takeIf("|"));
        return data;
    }

    private ModelSyntax.Infix infix() {
        String side = take(look().sort).sort;
        if (!is("INT") || look().number() > 9) {
            throw bad();
        }
        ModelSyntax.Infix infix = new ModelSyntax.Infix(take("INT").number(), side);
        do {
            infix.ops.add(op());
        } while (takeIf(","));
        return infix;
    }

    private boolean beginsOp() {
        return is("OPERATOR") || is("`");
    }

    private ModelSyntax.Op op() {
        int place = look().place;
        if (takeIf("`")) {
            String name = take("NAME").text;
            take("`");
            return new ModelSyntax.Op(name, place);
        }
        return new ModelSyntax.Op(take("OPERATOR").text, place);
    }

    private ModelSyntax.Signature signature(boolean bracketed) {
        if (bracketed) {
            take("(");
        }
        ModelToken name = take(look().sort);
        if (bracketed) {
            take(")");
        }
        take("::");
        ModelSyntax.Signature signature = new ModelSyntax.Signature(name.text, name.place);
        int from = at;
        signature.type = type();
        signature.tokens = at - from;
        return signature;
    }

    private ModelSyntax.Type type() {
        ModelSyntax.Type left = is("BIG") ? appliedType() : atomicType();
        if (!takeIf("->")) {
            return left;
        }
        ModelSyntax.Type arrow = new ModelSyntax.Type("->", "->", 0);
        arrow.parts.add(left);
        arrow.parts.add(type());
        return arrow;
    }

    private ModelSyntax.Type appliedType() {
        ModelToken big = take("BIG");
        ModelSyntax.Type type = new ModelSyntax.Type("BIG", big.text, big.place);
        type.parts.addAll(atomicTypes());
        return type;
    }

    private List<ModelSyntax.Type> atomicTypes() {
        List<ModelSyntax.Type> types = new ArrayList<>();
        while (is("BIG") || is("NAME") || is("(") || is("[")) {
            types.add(atomicType());
        }
        return types;
    }

    private ModelSyntax.Type atomicType() {
        ModelToken first = look();
        if (is("BIG") || is("NAME")) {
            take(first.sort);
            return new ModelSyntax.Type(first.sort, first.text, first.place);
        }
        if (is("[")) {
            opens("[");
            ModelSyntax.Type list = new ModelSyntax.Type("[]", "[]", first.place);
            list.parts.add(type());
            closes("]");
            return list;
        }
        opens("(");
        List<ModelSyntax.Type> parts = new ArrayList<>();
        while (!(is(")") && parts.isEmpty())) {
            parts.add(type());
            if (parts.size() == 3 || !takeIf(",")) {
                break;
            }
        }
        closes(")");
        if (parts.size() == 1) {
            parts.get(0).bracketed = true;
            return parts.get(0);
        }
        String name = tuple(parts.size());
        ModelSyntax.Type type = new ModelSyntax.Type(name, name, first.place);
        type.parts.addAll(parts);
        return type;
    }

    private static String tuple(int parts) {
        return parts == 0 ? "()" : parts == 2 ? "(,)" : "(,,)";
    }

    private ModelSyntax.Rule rule() {
        ModelSyntax.Rule rule = new ModelSyntax.Rule(look().place);
        int from = at;
        boolean opBehind = isBehind("`") || (isBehind("OPERATOR") && !tokens.get(at + 1).isColon());
        if (!is("NAME") || opBehind || isBehind("@")) {
            rule.patterns.add(atomicPattern());
            if (look().isColon()) {
                throw bad();
            }
            ModelSyntax.Op op = op();
            rule.name = op.name;
            rule.place = op.place;
            rule.patterns.add(atomicPattern());
        } else {
            rule.place = look().place;
            rule.name = take("NAME").text;
            rule.patterns.addAll(atomicPatterns());
        }
        int side = at;
        if (is("|")) {
            while (takeIf("|")) {
                ModelSyntax.Expr guard = expr();
                take("=");
                rule.guards.add(new ModelSyntax.Guard(guard, expr()));
            }
        } else {
            take("=");
            rule.expr = expr();
        }
        if (takeIf("where")) {
            rule.block = block();
        }
        rule.tokens = at - from;
        rule.weight = at - side;
        return rule;
    }

    private List<ModelSyntax.Local> block() {
        List<ModelSyntax.Local> block = new ArrayList<>();
        opens("{");
        do {
            ModelSyntax.Local local = new ModelSyntax.Local();
            local.names.add(take("NAME"));
            if (takeIf("=")) {
                local.expr = expr();
            } else {
                while (takeIf(",")) {
                    local.names.add(take("NAME"));
                }
                take("free");
            }
            block.add(local);
        } while (takeIf(";"));
        closes("}");
        return block;
    }

    private List<ModelSyntax.Pattern> atomicPatterns() {
        List<ModelSyntax.Pattern> patterns = new ArrayList<>();
        while (is("NAME") || is("WILD") || is("BIG") || is("INT") || is("(") || is("[")) {
            patterns.add(atomicPattern());
        }
        return patterns;
    }

    private ModelSyntax.Pattern atomicPattern() {
        ModelToken first = look();
        if (is("NAME")) {
            take("NAME");
            if (!takeIf("@")) {
                return new ModelSyntax.Pattern("NAME", first.text, first.place);
            }
            ModelSyntax.Pattern as = new ModelSyntax.Pattern("AS", first.text, first.place);
            as.parts.add(atomicPattern());
            return as;
        }
        if (is("WILD") || is("BIG") || is("INT")) {
            take(first.sort);
            return new ModelSyntax.Pattern(first.sort, first.text, first.place);
        }
        if (is("[")) {
            return listPattern();
        }
        opens("(");
        List<ModelSyntax.Pattern> parts = new ArrayList<>();
        while (!(is(")") && parts.isEmpty())) {
            parts.add(pattern());
            if (parts.size() == 3 || !takeIf(",")) {
                break;
            }
        }
        closes(")");
        return parts.size() == 1 ? parts.get(0) : constructed(tuple(parts.size()), first.place, parts);
    }

    private ModelSyntax.Pattern listPattern() {
        int place = look().place;
        opens("[");
        List<ModelSyntax.Pattern> parts = new ArrayList<>();
        if (!is("]")) {
            do {
                parts.add(pattern());
            } while (takeIf(","));
        }
        closes("]");
        ModelSyntax.Pattern list = constructed("[]", place, List.of());
        for (int i = parts.size() - 1; i >= 0; i--) {
            list = constructed(":", place, List.of(parts.get(i), list));
        }
        return list;
    }

    private static ModelSyntax.Pattern constructed(String name, int place, List<ModelSyntax.Pattern> parts) {
        ModelSyntax.Pattern pattern = new ModelSyntax.Pattern("CON", name, place);
        pattern.parts = parts;
        return pattern;
    }

    private ModelSyntax.Pattern pattern() {
        ModelSyntax.Pattern left;
        if (is("BIG")) {
            ModelToken big = take("BIG");
            left = new ModelSyntax.Pattern("BIG", big.text, big.place);
            left.parts = atomicPatterns();
        } else {
            left = atomicPattern();
        }
        if (!look().isColon()) {
            return left;
        }
        int place = take("OPERATOR").place;
        return constructed(":", place, List.of(left, pattern()));
    }

    private boolean beginsTail() {
        return is("\\") || is("let") || is("if") || is("case") || is("fcase");
    }

    private ModelSyntax.Expr node(String sort) {
        return new ModelSyntax.Expr(sort, look().text, look().place);
    }

    private ModelSyntax.Expr expr() {
        return beginsTail() ? tail() : row(operand());
    }

    private ModelSyntax.Expr tail() {
        ModelSyntax.Expr tail;
        if (is("\\")) {
            tail = lambda();
        } else if (is("let")) {
            tail = node("LET");
            opens("let");
            tail.block = block();
            take("in");
            tail.parts.add(expr());
        } else if (is("if")) {
            tail = node("IF");
            opens("if");
            tail.parts.add(expr());
            take("then");
            tail.parts.add(expr());
            take("else");
            tail.parts.add(expr());
        } else {
            tail = cases(is("case") ? "case" : "fcase");
        }
        open--;
        return tail;
    }

    private ModelSyntax.Expr lambda() {
        ModelSyntax.Expr lambda = node("LAMBDA");
        opens("\\");
        do {
            lambda.names.add(is("WILD") ? take("WILD") : take("NAME"));
        } while (!is("->"));
        take("->");
        int from = at;
        lambda.parts.add(expr());
        lambda.weight = at - from;
        return lambda;
    }

    private ModelSyntax.Expr cases(String word) {
        ModelSyntax.Expr cases = node(word.equals("case") ? "CASE" : "FCASE");
        opens(word);
        cases.parts.add(expr());
        take("of");
        opens("{");
        do {
            ModelSyntax.Alternative alternative = new ModelSyntax.Alternative(look().place);
            alternative.pattern = pattern();
            take("->");
            int from = at;
            alternative.expr = expr();
            alternative.weight = at - from;
            cases.alternatives.add(alternative);
        } while (takeIf(";"));
        closes("}");
        return cases;
    }

    /** What stands behind the first operand. */
    private ModelSyntax.Expr row(ModelSyntax.Expr first) {
        ModelSyntax.Expr row = new ModelSyntax.Expr("ROW", "", first.place);
        row.parts.add(first);
        boolean more = beginsOp();
        while (more) {
            if (row.ops.size() == 16) {
                throw bad();
            }
            row.ops.add(op());
            more = !beginsTail();
            row.parts.add(more ? operand() : tail());
            more = more && beginsOp();
        }
        return row.ops.isEmpty() ? first : row;
    }

    private ModelSyntax.Expr operand() {
        ModelSyntax.Expr operand;
        if (is("set")) {
            operand = node("SET");
            take("set");
            ModelSyntax.Expr name = node("NAME");
            take("NAME");
            operand.parts.add(name);
        } else {
            operand = new ModelSyntax.Expr("APPLY", "", look().place);
            operand.parts.add(atom());
        }
        while (is("NAME") || is("BIG") || is("INT") || is("(") || is("[")) {
            operand.parts.add(atom());
        }
        return operand.is("APPLY") && operand.parts.size() == 1 ? operand.part(0) : operand;
    }

    private ModelSyntax.Expr atom() {
        if (is("NAME") || is("BIG") || is("INT")) {
            ModelSyntax.Expr atom = node(look().sort);
            take(look().sort);
            return atom;
        }
        if (is("[")) {
            ModelSyntax.Expr list = node("LIST");
            opens("[");
            if (!is("]")) {
                do {
                    list.parts.add(expr());
                } while (takeIf(","));
            }
            closes("]");
            return list.parts.isEmpty() ? new ModelSyntax.Expr("BIG", "[]", list.place) : list;
        }
        int place = look().place;
        opens("(");
        ModelSyntax.Expr inside = inBrackets(place);
        closes(")");
        return inside;
    }

    private ModelSyntax.Expr inBrackets(int place) {
        if (is(")")) {
            return new ModelSyntax.Expr("BIG", "()", place);
        }
        if (beginsOp()) {
            ModelSyntax.Expr op = named(op());
            if (is(")")) {
                return op;
            }
            ModelSyntax.Expr section = new ModelSyntax.Expr("SECTION", "", place);
            section.parts.add(op);
            section.parts.add(operand());
            return section;
        }
        List<ModelSyntax.Expr> parts = new ArrayList<>();
        parts.add(beginsTail() ? tail() : rowOrSection());
        while (parts.size() < 3 && !is(")") && takeIf(",")) {
            parts.add(expr());
        }
        if (parts.size() == 1) {
            return parts.get(0);
        }
        ModelSyntax.Expr tuple = new ModelSyntax.Expr("TUPLE", "", place);
        tuple.parts = parts;
        return tuple;
    }

    /** Directly behind a ( : a Row, or an operand and an Op with a ) behind it. */
    private ModelSyntax.Expr rowOrSection() {
        ModelSyntax.Expr first = operand();
        if (!beginsOp()) {
            return first;
        }
        int from = at;
        ModelSyntax.Op op = op();
        if (is(")")) {
            ModelSyntax.Expr section = new ModelSyntax.Expr("APPLY", "", first.place);
            section.parts.add(named(op));
            section.parts.add(first);
            return section;
        }
        at = from;
        return row(first);
    }

    static ModelSyntax.Expr named(ModelSyntax.Op op) {
        return new ModelSyntax.Expr(op.name.equals(":") ? "BIG" : "NAME", op.name, op.place);
    }
}
