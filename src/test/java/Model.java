import java.util.List;

/**
 * A second ChoiceTongue, made from the document alone and without regard to speed or size: what the first
 * one answers is compared with it. It keeps no state of a PATH, but does each one from its beginning on.
 */
final class Model {
    private static final String PRELUDE = """
            infixr 9 .
            infixl 7 *, `div`, `mod`
            infixl 6 +, -
            infixr 5 ++
            infix 4 ==, /=, <, <=, >, >=, =:=
            infixr 3 &&
            infixr 2 ||
            infixr 1 &, &>
            infixr 0 $, ?
            data Bool = False | True
            (+) :: Int -> Int -> Int
            (-) :: Int -> Int -> Int
            (*) :: Int -> Int -> Int
            div :: Int -> Int -> Int
            mod :: Int -> Int -> Int
            (==) :: a -> a -> Bool
            (/=) :: a -> a -> Bool
            (<) :: Int -> Int -> Bool
            (<=) :: Int -> Int -> Bool
            (>) :: Int -> Int -> Bool
            (>=) :: Int -> Int -> Bool
            (=:=) :: a -> a -> Bool
            (&) :: Bool -> Bool -> Bool
            span :: Int -> Int -> Int -> Bool
            atMost :: [Int] -> [Int] -> Int -> Bool
            equalTo :: [Int] -> [Int] -> Int -> Bool
            differ :: [Int] -> Bool
            label :: [Int] -> Bool
            (?) :: a -> a -> a
            x ? _ = x
            _ ? y = y
            (&&) :: Bool -> Bool -> Bool
            True && x = x
            False && _ = False
            (||) :: Bool -> Bool -> Bool
            True || _ = True
            False || x = x
            not :: Bool -> Bool
            not True = False
            not False = True
            (&>) :: Bool -> a -> a
            True &> x = x
            ($) :: (a -> b) -> a -> b
            f $ x = f x
            (.) :: (b -> c) -> (a -> b) -> a -> c
            f . g = \\x -> f (g x)
            (++) :: [a] -> [a] -> [a]
            [] ++ ys = ys
            (x : xs) ++ ys = x : xs ++ ys
            map :: (a -> b) -> [a] -> [b]
            map _ [] = []
            map f (x : xs) = f x : map f xs
            failed :: a
            """;
    private static final int PRIMITIVES = 18;
    private static final int OUT = 65536;

    private final ModelSyntax.Module prelude = new ModelSyntax.Module();
    private ModelSyntax.Module module = prelude;
    int fault;
    ModelSearch search;

    Model() {
        ModelNames.declare(new ModelParser(PRELUDE).module(), prelude, true);
        for (ModelSyntax.Function f : prelude.functions.subList(0, PRIMITIVES)) {
            f.primitive = true;
            f.single = !f.name.equals("label");
        }
        ModelTree.makeAll(prelude.functions, prelude);
    }

    int module(String text) {
        try {
            List<Object> declarations = new ModelParser(text).module();
            ModelSyntax.Module draft = new ModelSyntax.Module(prelude);
            ModelNames.declare(declarations, draft, false);
            ModelTypes.judge(declarations, draft);
            ModelTree.makeAll(draft.functions.subList(prelude.functions.size(), draft.functions.size()), draft);
            module = draft;
            search = null;
            return 0;
        } catch (ModelFault e) {
            fault = e.kind;
            return -1 - e.place;
        }
    }

    int ask(int way, int bound, String text) {
        try {
            ModelSyntax.Query query = new ModelParser(text).query();
            ModelNames.check(query, module);
            search = new ModelSearch(module, query, ModelTypes.judge(query, module), way, bound);
            return 0;
        } catch (ModelFault e) {
            fault = e.kind;
            return -1 - e.place;
        }
    }

    long count(int what) {
        return what == 0 ? module.functions.size() : search == null ? 0 : search.counts[what];
    }

    private ModelSyntax.Function function(int i) {
        return i < 0 || i >= module.functions.size() ? null : module.functions.get(i);
    }

    int fact(int f, int what) {
        ModelSyntax.Function function = function(f);
        if (function == null) {
            return -1;
        }
        switch (what) {
            case 0: return function.takes;
            case 1: return function.rules.size();
            case 2: return function.tree == null ? 0 : function.tree.countBranches();
            case 3: return function.tree == null ? 0 : function.tree.countOrs();
            case 4: return function.tree != null && function.tree.covers() ? 1 : 0;
            case 5: return function.single ? 1 : 0;
            default: return -1;
        }
    }

    /** What the OUT becomes; null when there is none such. */
    String show(int what, int i) {
        String text = what >= 0 && what <= 2 ? showFunction(what, function(i)) : search == null ? null : showSearch(what, i);
        return text == null ? null : text.substring(0, Math.min(OUT, text.length()));
    }

    private static String showFunction(int what, ModelSyntax.Function function) {
        if (function == null) {
            return null;
        }
        if (what == 0) {
            return function.name;
        }
        if (what == 1) {
            return ModelTypes.print(ModelTypes.ofSignature(function));
        }
        return function.tree == null ? "" : function.tree.print();
    }

    private String showSearch(int what, int i) {
        boolean named = i >= 0 && i < search.freeNames.size();
        boolean valued = !search.printed.isEmpty();
        switch (what) {
            case 3: return ModelTypes.print(search.type);
            case 4: return named ? search.freeNames.get(i) : null;
            case 5: return valued ? search.printed.get(0) : null;
            case 6: return valued && named ? search.printed.get(i + 1) : null;
            default: return null;
        }
    }
}
