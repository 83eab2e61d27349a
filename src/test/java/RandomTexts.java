import java.util.ArrayList;
import java.util.List;
import java.util.Random;

/** Modules and Queries made at random: all names are known, and nearly all types are good. */
class RandomTexts {
    /** Functions with several values, names that are unknown, guards, CAPSULES, SPANS. */
    static final String MODULE = """
            data Nat = Z | S Nat
            data Mb a = No | Ju a
            infixr 6 `add`
            infix 4 `f2`
            add :: Nat -> Nat -> Nat
            add Z y = y
            add (S x) y = S (add x y)
            coin :: Int
            coin = 0
            coin = 1
            isz :: Int -> Bool
            isz 0 = True
            isz 1 = False
            isz 2 = True
            two :: Int -> Int
            two x = x
            two x = x + 1
            evn :: Nat -> Bool
            evn Z = True
            evn (S Z) = False
            evn (S (S x)) = evn x
            len :: [a] -> Int
            len [] = 0
            len (_:xs) = 1 + len xs
            hd :: [a] -> a
            hd (x:_) = x
            hd (_:x:_) = x
            from :: Int -> [Int]
            from n = n : from (n + 1)
            take :: Int -> [a] -> [a]
            take n xs = if n <= 0 then [] else case xs of {[] -> []; y : ys -> y : take (n - 1) ys}
            ins :: a -> [a] -> [a]
            ins x ys = x : ys
            ins x (y:ys) = y : ins x ys
            perm :: [a] -> [a]
            perm [] = []
            perm (x:xs) = ins x (perm xs)
            nat :: Int -> Nat
            nat n | n <= 0 = Z | True = S (nat (n - 1))
            fm :: Mb Int -> Int
            fm No = 0
            fm (Ju x) = x
            lp :: Int -> Int
            lp n = lp (n + 1)
            eqs :: Int -> Int -> Int
            eqs x y = (x =:= z & (y < 3 & z =:= y)) &> z where {z free}
            bi :: Bool -> Int -> Int
            bi b x = if b then x else x + 1
            bi b x = (b & isz x) &> 2
            nt :: Bool -> Bool
            nt b = b & (y =:= True & (y & b)) where {y free}
            nt b = case b of {True -> False}
            mk :: Int -> Int
            mk x = (span y 0 2 & x =:= y & label [y]) &> y where {y free}
            sp :: Int -> Bool
            sp x = span x 0 3 & differ [x, 1]
            ap :: (Int -> Int) -> Int -> Int
            ap f x = f x
            sq :: (Int, Bool) -> Int
            sq (0, b) = bi b 1
            sq (x, True) = x
            sq (x, False) = x + coin
            mid :: (Int, [Int], Bool) -> [Int]
            mid (x, 1 : ys, True) = x : ys
            mid (0, ys@zs@(y : _), b) = if b then ys else y : zs
            g3 :: Int -> Bool -> Int
            g3 x b | x == 0 = 1 | b & isz y = y + x where {y free}
            g3 1 b = fcase b of {True -> 0; False -> 2; _ -> 3}
            f2 :: Int -> Int -> Int
            f2 0 y = y
            f2 1 y = y + 1
            f2 x 2 = x
            w1 :: Int -> Bool -> Int
            w1 x b = hd (set w2 x b) + x
            w1 x True = len (set two x)
            w2 :: Int -> Bool -> Int
            w2 x b = (b & x =:= y & span y 0 3 & label [y]) &> y where {y free}
            w2 0 _ = 5
            w2 x b = len (set w3 b)
            w3 :: Bool -> Bool
            w3 b = b & (y & (b & y =:= True)) where {y free}
            w3 b = b == False
            w4 :: [Int] -> [Int]
            w4 xs = x : xs where {x free}
            w4 (x:xs) = (x =:= 1) &> xs
            w5 :: Int -> (Int, [Int])
            w5 x = (x, set w2 x True)
            w5 x = (y, [y, z, y]) where {y, z free}
            w6 :: Bool -> Bool -> Bool
            w6 True y = y
            w6 x True = x & x
            w7 :: a -> a -> Bool
            w7 x y = (x =:= y) & (y == x)
            w7 x y = set w8 x y == [True]
            w8 :: a -> a -> Bool
            w8 x y = (x =:= z & y =:= z) where {z free}
            w9 :: Int -> Bool
            w9 x = (span y 0 2 & differ [x, y] & atMost [1,1] [x, y] 2 & label [y]) where {y free}
            """;

    private static final String INT = "Int";
    private static final String BOOL = "Bool";
    private static final String LIST = "[Int]";
    private static final String NAT = "Nat";
    private static final String MAYBE = "(Mb Int)";
    private static final String PAIR = "(Int, Bool)";
    private static final String TRIPLE = "(Int, [Int], Bool)";
    private static final String FUN = "(Int -> Int)";
    private static final String LISTS = "[[Int]]";
    private static final String[] TYPES = {INT, INT, BOOL, BOOL, LIST, NAT, MAYBE, PAIR, TRIPLE, FUN, LISTS};

    /** A function: what it takes, and behind that what it answers. */
    private static final class Function {
        private final String name;
        private final String[] types;

        private Function(String name, String... types) {
            this.name = name;
            this.types = types;
        }

        private int takes() {
            return types.length - 1;
        }

        private boolean answers(String type) {
            return types[types.length - 1].equals(type);
        }
    }

    /** A NAME that is known, and its type. */
    private static final class Name {
        private final String name;
        private final String type;

        private Name(String name, String type) {
            this.name = name;
            this.type = type;
        }
    }

    private final Random random;
    private final List<Function> functions = new ArrayList<>();
    private int names;

    RandomTexts(long seed) {
        random = new Random(seed);
        add("add", NAT, NAT, NAT);
        add("coin", INT);
        add("isz", INT, BOOL);
        add("two", INT, INT);
        add("evn", NAT, BOOL);
        add("len", LIST, INT);
        add("hd", LIST, INT);
        add("hd", LISTS, LIST);
        add("ins", INT, LIST, LIST);
        add("perm", LIST, LIST);
        add("nat", INT, NAT);
        add("fm", MAYBE, INT);
        add("eqs", INT, INT, INT);
        add("bi", BOOL, INT, INT);
        add("nt", BOOL, BOOL);
        add("mk", INT, INT);
        add("sp", INT, BOOL);
        add("ap", FUN, INT, INT);
        add("sq", PAIR, INT);
        add("mid", TRIPLE, LIST);
        add("g3", INT, BOOL, INT);
        add("f2", INT, INT, INT);
        add("w1", INT, BOOL, INT);
        add("w2", INT, BOOL, INT);
        add("w3", BOOL, BOOL);
        add("w4", LIST, LIST);
        add("w6", BOOL, BOOL, BOOL);
        add("w7", INT, INT, BOOL);
        add("w8", BOOL, BOOL, BOOL);
        add("w9", INT, BOOL);
    }

    private void add(String name, String... types) {
        functions.add(new Function(name, types));
    }

    int upTo(int count) {
        return random.nextInt(count);
    }

    private boolean seldom() {
        return upTo(4) == 0;
    }

    String one(String... texts) {
        return texts[upTo(texts.length)];
    }

    private String fresh() {
        names++;
        return "v" + names;
    }

    // ---- Modules

    /** So many functions more, with rules at random. */
    String functions(int count) {
        int from = functions.size();
        for (int i = 0; i < count; i++) {
            String[] types = new String[1 + upTo(4)];
            for (int j = 0; j < types.length; j++) {
                types[j] = one(TYPES);
            }
            add("u" + i, types);
        }
        StringBuilder text = new StringBuilder();
        for (Function f : functions.subList(from, functions.size())) {
            text.append(f.name).append(" :: ").append(String.join(" -> ", f.types)).append('\n');
            for (int rules = f.takes() == 0 ? 1 + upTo(2) : upTo(6); rules > 0; rules--) {
                text.append(rule(f)).append('\n');
            }
        }
        return text.toString();
    }

    private String rule(Function f) {
        List<Name> known = new ArrayList<>();
        StringBuilder text = new StringBuilder(f.name);
        for (int i = 0; i < f.takes(); i++) {
            text.append(' ').append(inBrackets(pattern(f.types[i], known, 2)));
        }
        String block = seldom() ? " where " + block(known, 1 + upTo(2), 2) : "";
        String type = f.types[f.takes()];
        if (seldom()) {
            for (int guards = 1 + upTo(3); guards > 0; guards--) {
                text.append(" | ").append(expr(BOOL, known, 2)).append(" = ").append(expr(type, known, 2));
            }
        } else {
            text.append(" = ").append(expr(type, known, 3));
        }
        return text + block;
    }

    /** In brackets, where it is no Atom. */
    static String inBrackets(String text) {
        if (text.matches("[A-Za-z0-9_]+")) {
            return text;
        }
        int depth = 0;
        for (int i = 0; i < text.length(); i++) {
            depth += "([{".indexOf(text.charAt(i)) >= 0 ? 1 : ")]}".indexOf(text.charAt(i)) >= 0 ? -1 : 0;
            if (depth == 0) {
                return i == text.length() - 1 ? text : "(" + text + ")";
            }
        }
        return "(" + text + ")";
    }

    private String pattern(String type, List<Name> known, int depth) {
        int kind = upTo(10);
        if (kind < 2 || type.equals(FUN)) {
            String name = fresh();
            known.add(new Name(name, type));
            return name;
        }
        if (kind == 2) {
            return "_";
        }
        if (kind == 3) {
            String name = fresh();
            known.add(new Name(name, type));
            return name + "@" + inBrackets(pattern(type, known, depth - 1));
        }
        switch (type) {
            case INT: return one("0", "1", "2");
            case BOOL: return one("True", "False");
            case NAT: return upTo(2) == 0 || depth <= 0 ? "Z" : "S " + part(NAT, known, depth);
            case MAYBE: return upTo(2) == 0 ? "No" : "Ju " + part(INT, known, depth);
            case PAIR: return "(" + inside(INT, known, depth) + "," + inside(BOOL, known, depth) + ")";
            case TRIPLE:
                return "(" + inside(INT, known, depth) + "," + inside(LIST, known, depth) + "," + inside(BOOL, known, depth) + ")";
            default: return listPattern(type, known, depth);
        }
    }

    private String part(String type, List<Name> known, int depth) {
        return inBrackets(pattern(type, known, depth - 1));
    }

    private String inside(String type, List<Name> known, int depth) {
        return pattern(type, known, depth - 1);
    }

    private String listPattern(String type, List<Name> known, int depth) {
        String of = type.equals(LISTS) ? LIST : INT;
        int kind = depth <= 0 ? 0 : upTo(5);
        switch (kind) {
            case 0: return "[]";
            case 1: return "[" + inside(of, known, depth) + "]";
            case 2: return "[" + inside(of, known, depth) + "," + inside(of, known, depth) + "]";
            default: return part(of, known, depth) + " : " + inside(type, known, depth);
        }
    }

    // ---- Queries

    String query(int depth) {
        List<Name> known = new ArrayList<>();
        String block = upTo(6) == 0 ? "" : " where " + block(known, 1 + upTo(5), depth);
        String type = one(TYPES);
        if (upTo(2) == 0) {
            return expr(type, known, depth) + block;
        }
        StringBuilder text = new StringBuilder("(");
        for (int i = 1 + upTo(3); i > 0; i--) {
            text.append(atom(BOOL, known, depth - 1)).append(i > 1 ? " & " : ")");
        }
        return text + " &> " + atom(type, known, depth - 1) + block;
    }

    private String block(List<Name> known, int count, int depth) {
        List<String> locals = new ArrayList<>();
        for (int i = 0; i < count; i++) {
            String name = fresh();
            String type = one(TYPES);
            if (upTo(2) == 0) {
                locals.add(name + " = " + expr(type, known, depth - 1));
            } else if (seldom()) {
                String other = fresh();
                locals.add(name + ", " + other + " free");
                known.add(new Name(other, INT));
            } else {
                locals.add(name + " free");
            }
            known.add(new Name(name, type));
        }
        return "{" + String.join("; ", locals) + "}";
    }

    private String atom(String type, List<Name> known, int depth) {
        return inBrackets(expr(type, known, depth));
    }

    private String expr(String type, List<Name> known, int depth) {
        int kind = depth <= 0 ? 0 : upTo(20);
        switch (kind) {
            case 0: case 1: case 2:
                return leaf(type, known);
            case 3:
                return "if " + expr(BOOL, known, depth - 1) + " then " + expr(type, known, depth - 1)
                        + " else " + expr(type, known, depth - 1);
            case 4:
                List<Name> inLet = new ArrayList<>(known);
                return "let " + block(inLet, 1 + upTo(3), depth) + " in " + expr(type, inLet, depth - 1);
            case 5:
                return cases(type, known, depth);
            case 6:
                return atom(BOOL, known, depth - 1) + " &> " + atom(type, known, depth - 1);
            case 7:
                return atom(type, known, depth - 1) + " ? " + atom(type, known, depth - 1);
            case 8: case 9: case 10: case 11:
                return called(type, known, depth);
            default:
                return exprOf(type, known, depth);
        }
    }

    private String cases(String type, List<Name> known, int depth) {
        String on = one(TYPES);
        List<String> alternatives = new ArrayList<>();
        for (int i = 1 + upTo(4); i > 0; i--) {
            List<Name> inside = new ArrayList<>(known);
            alternatives.add(pattern(on, inside, 2) + " -> " + expr(type, inside, depth - 1));
        }
        return one("case ", "fcase ") + expr(on, known, depth - 1) + " of {" + String.join("; ", alternatives) + "}";
    }

    private String called(String type, List<Name> known, int depth) {
        List<Function> all = new ArrayList<>();
        for (Function f : functions) {
            if (f.answers(type)) {
                all.add(f);
            }
        }
        if (all.isEmpty()) {
            return leaf(type, known);
        }
        Function f = all.get(upTo(all.size()));
        StringBuilder text = new StringBuilder(f.name);
        for (int i = 0; i < f.takes(); i++) {
            text.append(' ').append(atom(f.types[i], known, depth - 1));
        }
        return text.toString();
    }

    /** A CAPSULE. */
    private String set(String type, List<Name> known, int depth) {
        String call = called(type, known, depth);
        boolean good = call.matches("[a-z].*") && !call.matches("(v\\d|if |let |case |fcase ).*") && !call.equals("two")
                && !call.equals("mk");
        return good ? "set " + call : "[" + leaf(type, known) + "]";
    }

    private String leaf(String type, List<Name> known) {
        List<String> all = new ArrayList<>();
        for (Name name : known) {
            if (name.type.equals(type)) {
                all.add(name.name);
                all.add(name.name);
            }
        }
        all.add(constant(type));
        return all.get(upTo(all.size()));
    }

    private String constant(String type) {
        switch (type) {
            case INT: return one("0", "1", "2", "3", "coin");
            case BOOL: return one("True", "True", "False");
            case LIST: return one("[]", "[1]", "[0,2]");
            case NAT: return one("Z", "(S Z)");
            case MAYBE: return one("No", "(Ju 1)");
            case PAIR: return one("(0,True)", "(1,False)");
            case TRIPLE: return one("(0,[1],True)", "(2,[],False)");
            case FUN: return one("(+ 1)", "two", "(2 -)", "(\\x -> x + x)", "(\\_ -> 1)", "(f2 1)", "mk", "(`f2` 1)", "(\\x y -> x + y) 2");
            default: return one("[]", "[[1],[]]");
        }
    }

    private String exprOf(String type, List<Name> known, int depth) {
        switch (type) {
            case INT: return intOf(known, depth);
            case BOOL: return boolOf(known, depth);
            case LIST: return listOf(known, depth);
            case NAT: return upTo(2) == 0 ? "S " + atom(NAT, known, depth - 1) : "hd (" + set(NAT, known, depth) + ")";
            case MAYBE: return "Ju " + atom(INT, known, depth - 1);
            case PAIR: return "(" + expr(INT, known, depth - 1) + "," + expr(BOOL, known, depth - 1) + ")";
            case TRIPLE:
                return "(" + expr(INT, known, depth - 1) + "," + expr(LIST, known, depth - 1) + "," + expr(BOOL, known, depth - 1) + ")";
            case FUN: return funOf(known, depth);
            default: return upTo(2) == 0 ? set(LIST, known, depth) : atom(LIST, known, depth - 1) + " : " + atom(LISTS, known, depth - 1);
        }
    }

    private String intOf(List<Name> known, int depth) {
        switch (upTo(6)) {
            case 0: case 1:
                return atom(INT, known, depth - 1) + one(" + ", " - ", "*", " `div` ", " `mod` ", " `f2` ") + atom(INT, known, depth - 1);
            case 2:
                return atom(FUN, known, depth - 1) + " " + atom(INT, known, depth - 1);
            case 3:
                return "hd (" + set(INT, known, depth) + ")";
            case 4:
                return "len (" + set(one(INT, BOOL, LIST), known, depth) + ")";
            default:
                return "(f2 $ " + atom(INT, known, depth - 1) + ") $ " + atom(INT, known, depth - 1);
        }
    }

    private String boolOf(List<Name> known, int depth) {
        String type = one(TYPES);
        switch (upTo(14)) {
            case 0:
                return atom(type, known, depth - 1) + one(" == ", " /= ") + atom(type, known, depth - 1);
            case 1: case 2: case 3:
                return atom(type, known, depth - 1) + " =:= " + atom(type, known, depth - 1);
            case 4: case 5: case 6: case 7:
                return atom(BOOL, known, depth - 1) + " & " + atom(BOOL, known, depth - 1);
            case 8:
                return atom(BOOL, known, depth - 1) + one(" && ", " || ") + atom(BOOL, known, depth - 1);
            case 9:
                return atom(INT, known, depth - 1) + one(" < ", " <= ", " > ", " >= ") + atom(INT, known, depth - 1);
            case 10:
                return "span " + atom(INT, known, depth - 1) + " " + upTo(2) + " " + (seldom() ? atom(INT, known, depth - 1) : "" + upTo(4));
            case 11:
                return one("differ ", "label ") + atom(LIST, known, depth - 1);
            case 12:
                return one("atMost ", "equalTo ") + one("[1,2]", "[1,1]", "[2,0]", "[1]") + " [" + expr(INT, known, depth - 1) + ","
                        + expr(INT, known, depth - 1) + "] " + upTo(5);
            default:
                return set(BOOL, known, depth) + " == [True]";
        }
    }

    private String listOf(List<Name> known, int depth) {
        switch (upTo(6)) {
            case 0: return atom(INT, known, depth - 1) + " : " + atom(LIST, known, depth - 1);
            case 1: return "[" + expr(INT, known, depth - 1) + "," + expr(INT, known, depth - 1) + "]";
            case 2: return atom(LIST, known, depth - 1) + " ++ " + atom(LIST, known, depth - 1);
            case 3: return "map " + atom(FUN, known, depth - 1) + " " + atom(LIST, known, depth - 1);
            case 4: return "take " + upTo(4) + " " + atom(LIST, known, depth - 1);
            default: return set(INT, known, depth);
        }
    }

    private String funOf(List<Name> known, int depth) {
        switch (upTo(5)) {
            case 0:
                List<Name> inside = new ArrayList<>(known);
                inside.add(new Name("x", INT));
                return "\\x -> " + expr(INT, inside, depth - 1);
            case 1: return one("(+) ", "f2 ", "eqs ") + atom(INT, known, depth - 1);
            case 2: return "(" + one("+ ", "- ", "*", "`f2` ", "`eqs` ") + atom(INT, known, depth - 1) + ")";
            case 3: return atom(FUN, known, depth - 1) + " . " + atom(FUN, known, depth - 1);
            default: return "(" + atom(INT, known, depth - 1) + one(" +", " -", " `eqs`") + ")";
        }
    }
}
