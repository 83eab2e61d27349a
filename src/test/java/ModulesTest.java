/**
 * Promise 4: a module is in place of the one before, of which nothing is left, whether it was the latest one or
 * lies further back; a text that is refused leaves all as it was, however often that is.
 */
public final class ModulesTest {
    private static final Checks CHECKS = new Checks();
    private static final String FIRST = "data Box a = Box a | None\ndata Two = One Int | Two Int Int\ninfixr 5 %\n(%) :: Int -> Int -> Int\n"
            + "x % y = x - y\nopen :: Box a -> a\nopen (Box x) = x\nlone :: Int -> Two\n";
    /** The same names with other meanings. */
    private static final String SECOND = "data Two = None | Box Two Two Two\ndata Box = One | Two\ninfixl 7 %\n(%) :: Int -> Int -> Int\n"
            + "0 % y = y\nx % y = y - x\nopen :: Two -> Int\nopen None = 0\nopen (Box _ y z) = open y ? 1 + open z\n";

    public static void main(String[] args) {
        for (int between = 0; between <= 3; between++) {
            nothingIsLeft(between);
            allCanBeToldAnew(between);
        }
        oneBehindTheOther();
        refusedModules();
        refusedQueries();
        refusedWhileASearchGoesOn();
        thePreludeStays();
        CHECKS.end();
    }

    private static void modulesBetween(Tongue t, int count) {
        for (int i = 0; i < count; i++) {
            CHECKS.same("a module between", t.module("data D" + i + " = D" + i + "\nf" + i + " :: Int\nf" + i + " = " + i + "\n"), 0);
        }
    }

    /** Each name of the first module is unknown in a later one, and in its Queries. */
    private static void nothingIsLeft(int between) {
        String[] gone = {"g :: ?Two", "g :: ?Box Int", "g :: Int\ng = ?open failed", "g :: Int\ng = 1 ?% 2", "g :: Int\ng = ?lone 1",
            "g :: Int\ng = case failed of {?None -> 1}", "g :: Int\ng = fcase failed of {?One x -> 1}", "g :: a -> Int\ng (?Box x) = 1",
            "?open x = x", "x ?% y = x", "infix 3 ?%", "infixl 3 ?`open`", "g :: [Int]\ng = set ?open"};
        for (String text : gone) {
            Tongue t = Tongue.with(FIRST);
            modulesBetween(t, between);
            if (between == 0) {
                CHECKS.same("the empty module", t.module(""), 0);
            }
            CHECKS.same(text + " behind " + between, t.module(text.replace("?", "")), -1 - text.indexOf('?'));
            CHECKS.same(text + " behind " + between + ": a name", t.tongue.fault(), 3);
        }
        Tongue t = Tongue.with(FIRST);
        modulesBetween(t, between);
        CHECKS.same("another module", t.module("g :: Int\ng = 1\n"), 0);
        for (String query : new String[] {"open", "None", "One 1", "lone", "(%)", "g + open", "set lone 1"}) {
            CHECKS.holds(query + " is gone from Queries", t.ask(0, 1, query) < 0);
            CHECKS.same(query + " is gone from Queries", t.tongue.fault(), 3);
        }
        CHECKS.same("what is there", t.first("g"), "1");
        CHECKS.same("functions", t.tongue.count(0), 29);
    }

    private static void allCanBeToldAnew(int between) {
        Tongue t = Tongue.with(FIRST);
        CHECKS.same("right", t.first("9 % 3 % 2"), "8");
        CHECKS.same("its types", t.show(1, 29), "Box a -> a");
        modulesBetween(t, between);
        CHECKS.same("the second one", t.module(SECOND), 0);
        CHECKS.same("its functions", t.tongue.count(0), 30);
        CHECKS.same("its names", t.show(0, 28) + " " + t.show(0, 29), "% open");
        CHECKS.same("its types", t.show(1, 29), "Two -> Int");
        CHECKS.same("its TREES", t.show(2, 28) + " " + t.show(2, 29), "[1{0:#1},#2] 1{None:#1,Box:#2}");
        CHECKS.same("left", t.first("6 % 4 % 1"), "3");
        CHECKS.same("its constructors", t.first("Box None None (Box None None None)"), "Box None None (Box None None None)");
        CHECKS.same("how many they take", t.ask(0, 1, "One 1"), -1);
        CHECKS.same("that is of TYPES", t.tongue.fault(), 6);
        CHECKS.same("its values", t.all("open (Box failed None (Box failed None None))"), "0; 1; 2; end");
        modulesBetween(t, between);
        CHECKS.same("the first one again", t.module(FIRST), 0);
        CHECKS.same("right again", t.first("9 % 3 % 2"), "8");
        CHECKS.same("its constructors again", t.first("(One 1, Two 2 3, Box None)"), "(One 1,Two 2 3,Box None)");
        CHECKS.same("no rules, no TREE", t.show(2, 30), "");
        CHECKS.same("what it takes", t.tongue.fact(30, 0), 1);
        CHECKS.same("rules", t.tongue.fact(30, 1), 0);
    }

    /** The TAPE is the whole module: what was told by the one before is no longer there for it. */
    private static void oneBehindTheOther() {
        Tongue t = Tongue.with("data A = A\na :: A\na = A");
        CHECKS.same("the one before", t.module("b :: A\nb = a"), -6);
        CHECKS.same("it stays", t.first("a"), "A");
        CHECKS.same("both together", t.module("data A = A\na :: A\na = A\nb :: A\nb = a"), 0);
        CHECKS.same("the later one", t.first("b"), "A");
        CHECKS.same("without rules", t.module("a :: Int\nb :: Int"), 0);
        CHECKS.same("nothing of those before", t.first("a"), "1 places, 1 failed");
        CHECKS.same("not SINGLE before", t.module("a :: Int\na = 1\na = 2"), 0);
        CHECKS.same("not SINGLE", t.tongue.fact(28, 5) + t.tongue.fact(28, 3), 1);
        CHECKS.same("SINGLE now", t.module("a :: Int\na = 1"), 0);
        CHECKS.same("SINGLE", t.tongue.fact(28, 5) + t.tongue.fact(28, 3), 1);
        CHECKS.same("it COVERS", t.tongue.fact(28, 4), 1);
        CHECKS.same("no more", t.module("a :: Int -> Int\na 1 = 1"), 0);
        CHECKS.same("it does not COVER", t.tongue.fact(28, 4), 0);
    }

    /** Texts with much in them that are refused at last, for each kind of FAULT. */
    private static String[] refused() {
        String much = "data T a = None | Box a Int | X (T a)\ndata U = One | Two\ninfixl 2 %, `open`\n(%) :: U -> T a -> a\n_ % Box x _ = x\n"
                + "open :: U -> U -> T U\nopen One x = Box x 1\nlone :: T U\n";
        return new String[] {much + "f :: Int\nf = \"", much + "f :: Int\nf = = 1", much + "f :: Int\nf = g", much + "f :: U\nf = 1 == 2 == 3",
            much + "f :: T\n", much + "f :: Int\nf = One"};
    }

    private static String told(Tongue t) {
        StringBuilder text = new StringBuilder();
        for (int f = 28; f < t.tongue.count(0); f++) {
            text.append(t.show(0, f)).append(" :: ").append(t.show(1, f)).append(' ').append(t.show(2, f)).append(' ');
            for (int what = 0; what <= 5; what++) {
                text.append(t.tongue.fact(f, what));
            }
            text.append("; ");
        }
        return text.append(t.all("(9 % 3 % 2, [open (Box (One 4)), Two 1 (2 % 3)], None =:= x) where {x free; y = lone 1}"))
                .append(' ').append(t.show(3, 0)).append(' ').append(t.first("[Box 1, None]")).toString();
    }

    private static void refusedModules() {
        Tongue t = Tongue.with(FIRST);
        String before = told(t);
        CHECKS.same("as it is", before, "% :: Int -> Int -> Int #1 210011; open :: Box a -> a 1{Box:#1} 111001; lone :: Int -> Two  100001; "
                + "(8,[One 4,Two 1 (-1)],True) x=None; end (Int, [Two], Bool) [Box 1,None]");
        for (String text : refused()) {
            for (int i = 0; i < 4; i++) {
                CHECKS.holds("refused: " + text, t.module(text) < 0);
                CHECKS.same("behind " + text, told(t), before);
            }
        }
        // Behind all those a good one is what it is without them.
        CHECKS.same("a good one", t.module(SECOND), 0);
        CHECKS.same("its VALUES", t.all("open (Box failed None (Box failed None None))"), "0; 1; 2; end");
        CHECKS.same("its constructors", t.first("Box None None None"), "Box None None None");
    }

    private static void refusedQueries() {
        Tongue t = Tongue.with(FIRST);
        String before = told(t);
        String[] queries = {"1 '", "1 +", "None' where {x free}", "1 == 2 == 3", "case One 1 of {One -> 1}", "open (One 1) where {x, y free}"};
        for (int kind = 1; kind <= 6; kind++) {
            for (int i = 0; i < 4; i++) {
                CHECKS.holds("refused: " + queries[kind - 1], t.ask(0, 1, queries[kind - 1]) < 0);
                CHECKS.same("its kind", t.tongue.fault(), kind);
                CHECKS.same("behind " + queries[kind - 1], told(t), before);
            }
        }
    }

    /** VALUES come as if nothing was refused between them. */
    private static void refusedWhileASearchGoesOn() {
        String query = "(Box (One x), open y % z, y) where {x free; y = Box 3 ? Box 4; z = 1 ? 2}";
        Tongue t = Tongue.with(FIRST);
        String due = t.all(query);
        CHECKS.same("VALUES", due, "(Box (One _1),2,Box 3) x=_1; (Box (One _1),1,Box 3) x=_1; (Box (One _1),3,Box 4) x=_1; (Box (One _1),2,Box 4) x=_1; end");
        for (String text : refused()) {
            t.askGood(0, 1, query);
            StringBuilder all = new StringBuilder();
            while (t.tongue.next() == 1) {
                CHECKS.holds("a module is refused", t.module(text) < 0);
                CHECKS.holds("a Query is refused", t.ask(1, 3, "open (One 1) where {z free}") < 0);
                CHECKS.holds("a Query is refused", t.ask(1, 3, "1 + where") < 0);
                CHECKS.same("its type", t.show(3, 0), "(Box Two, Int, Box Int)");
                all.append(t.show(5, 0)).append(' ').append(t.show(4, 0)).append('=').append(t.show(6, 0)).append("; ");
            }
            CHECKS.same("the same VALUES", all.append("end").toString(), due);
        }
    }

    private static void thePreludeStays() {
        Tongue t = new Tongue();
        String before = t.all("(map not [True, x], 7 `div` 2 + 1, [1] ++ [2 ? 3]) where {x free}");
        for (String text : new String[] {FIRST, SECOND, "", refused()[4], refused()[5], "not :: Int", "data Bool = No", "infix 1 +"}) {
            t.module(text);
            CHECKS.same("behind " + text, t.all("(map not [True, x], 7 `div` 2 + 1, [1] ++ [2 ? 3]) where {x free}"), before);
            CHECKS.same("the first function", t.show(0, 0) + " " + t.show(1, 0), "+ Int -> Int -> Int");
            CHECKS.same("the last function", t.show(0, 27) + " " + t.show(1, 27), "failed a");
            CHECKS.same("a TREE", t.show(2, 25), "1{[]:#1,::#2}");
        }
    }
}
