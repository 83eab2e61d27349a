import java.util.ArrayList;
import java.util.HashMap;
import java.util.LinkedHashMap;
import java.util.List;
import java.util.Map;

/** What the model makes of texts. */
final class ModelSyntax {
    private ModelSyntax() {
    }

    /** Sorts: BIG, NAME, (), (,), (,,), [], and -> whose place tells nothing. */
    static final class Type {
        final String sort;
        final String name;
        final int place;
        final List<Type> parts = new ArrayList<>();
        boolean bracketed;

        Type(String sort, String name, int place) {
            this.sort = sort;
            this.name = name;
            this.place = place;
        }
    }

    static final class Constructor {
        final String name;
        final int place;
        final Data data;
        final int index;
        final List<Type> parts = new ArrayList<>();
        int tokens;

        Constructor(String name, int place, Data data) {
            this.name = name;
            this.place = place;
            this.data = data;
            index = data.constructors.size();
            data.constructors.add(this);
        }

        int takes() {
            return parts.size();
        }
    }

    static final class Data {
        final String name;
        final int place;
        final List<ModelToken> names = new ArrayList<>();
        final List<Constructor> constructors = new ArrayList<>();

        Data(String name, int place) {
            this.name = name;
            this.place = place;
        }
    }

    static final class Op {
        final String name;
        final int place;

        Op(String name, int place) {
            this.name = name;
            this.place = place;
        }
    }

    static final class Infix {
        final int strength;
        final String side;
        final List<Op> ops = new ArrayList<>();

        Infix(int strength, String side) {
            this.strength = strength;
            this.side = side;
        }
    }

    static final class Signature {
        final String name;
        final int place;
        Type type;
        int tokens;

        Signature(String name, int place) {
            this.name = name;
            this.place = place;
        }

        /** Arrows outside of all brackets. */
        int arrows() {
            int count = 0;
            for (Type t = type; t.sort.equals("->") && !t.bracketed; t = t.parts.get(1)) {
                count++;
            }
            return count;
        }
    }

    /** Sorts: NAME, AS, WILD, INT, BIG, which becomes CON when its constructor is known. */
    static final class Pattern {
        String sort;
        final String name;
        final int place;
        List<Pattern> parts = new ArrayList<>();
        Constructor constructor;

        Pattern(String sort, String name, int place) {
            this.sort = sort;
            this.name = name;
            this.place = place;
        }

        boolean is(String wanted) {
            return sort.equals(wanted);
        }

        boolean tellsName() {
            return is("NAME") || is("AS");
        }

        /** What stands behind all @. */
        Pattern plain() {
            return is("AS") ? parts.get(0).plain() : this;
        }

        long number() {
            return Long.parseLong(name);
        }
    }

    /** NAME = Expr, or names that are free. */
    static final class Local {
        final List<ModelToken> names = new ArrayList<>();
        Expr expr;
    }

    static final class Alternative {
        final int place;
        Pattern pattern;
        Expr expr;
        int weight;

        Alternative(int place) {
            this.place = place;
        }
    }

    static final class Guard {
        final Expr guard;
        final Expr expr;

        Guard(Expr guard, Expr expr) {
            this.guard = guard;
            this.expr = expr;
        }
    }

    /** Sorts: NAME, BIG (with () and []), INT, APPLY, SET, ROW, LAMBDA, SECTION, LET, IF, CASE, FCASE, TUPLE, LIST. */
    static final class Expr {
        String sort;
        String name;
        int place;
        List<Expr> parts = new ArrayList<>();
        final List<Op> ops = new ArrayList<>();
        List<ModelToken> names = new ArrayList<>();
        List<Local> block = new ArrayList<>();
        final List<Alternative> alternatives = new ArrayList<>();
        int weight;
        /** Of fcase: the function that is made for it. */
        Function function;

        Expr(String sort, String name, int place) {
            this.sort = sort;
            this.name = name;
            this.place = place;
        }

        boolean is(String wanted) {
            return sort.equals(wanted);
        }

        Expr part(int i) {
            return parts.get(i);
        }
    }

    static final class Rule {
        final int first;
        String name;
        int place;
        final List<Pattern> patterns = new ArrayList<>();
        final List<Guard> guards = new ArrayList<>();
        Expr expr;
        List<Local> block = new ArrayList<>();
        int tokens;
        int weight;
        Function function;
        int number;

        Rule(int first) {
            this.first = first;
        }

        /** Guards and Exprs in their order. */
        List<Expr> exprs() {
            List<Expr> all = new ArrayList<>();
            for (Guard g : guards) {
                all.add(g.guard);
                all.add(g.expr);
            }
            if (expr != null) {
                all.add(expr);
            }
            return all;
        }
    }

    static final class Function {
        final String name;
        final Signature signature;
        final List<Rule> rules = new ArrayList<>();
        int takes;
        ModelTree tree;
        boolean single = true;
        boolean primitive;

        Function(String name, Signature signature) {
            this.name = name;
            this.signature = signature;
        }
    }

    static final class Query {
        final int first;
        Expr expr;
        List<Local> block = new ArrayList<>();
        int tokens;

        Query(int first) {
            this.first = first;
        }
    }

    /** What is declared, by name. */
    static final class Module {
        final List<Function> functions = new ArrayList<>();
        final Map<String, Function> function = new LinkedHashMap<>();
        final Map<String, Data> data = new HashMap<>();
        final Map<String, Constructor> constructor = new HashMap<>();
        final Map<String, Infix> infix = new HashMap<>();

        /** Only what no text declares: tuples and lists. */
        Module() {
            add("()", 0);
            add("(,)", 2);
            add("(,,)", 3);
            Data list = new Data("[]", 0);
            add(new Constructor("[]", 0, list), 0);
            add(new Constructor(":", 0, list), 2);
            infix.put(":", new Infix(5, "infixr"));
        }

        Module(Module before) {
            functions.addAll(before.functions);
            function.putAll(before.function);
            data.putAll(before.data);
            constructor.putAll(before.constructor);
            infix.putAll(before.infix);
        }

        private void add(String name, int takes) {
            add(new Constructor(name, 0, new Data(name, 0)), takes);
        }

        private void add(Constructor c, int takes) {
            for (int i = 0; i < takes; i++) {
                c.parts.add(new Type("NAME", "t" + i, 0));
            }
            constructor.put(c.name, c);
        }
    }
}
