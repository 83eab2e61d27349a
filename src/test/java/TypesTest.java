/** Part I, FAULTS 6: TYPES, the places of their faults and the order in which they are judged; and how types are printed. */
public final class TypesTest {
    private static final String AT = Texts.AT;
    private static final Checks CHECKS = new Checks();
    private static final Texts TEXTS = new Texts(CHECKS);

    public static void main(String[] args) {
        atoms();
        applications();
        operators();
        sections();
        sets();
        lambdas();
        lets();
        choices();
        tuplesAndLists();
        patterns();
        rules();
        namesOfSignatures();
        unknownsInThemselves();
        oneTypeOrNew();
        orderInRules();
        orderInExpressions();
        printed();
        manyUnknowns();
        CHECKS.end();
    }

    private static void atoms() {
        TEXTS.type("1", "Int");
        TEXTS.type("()", "()");
        TEXTS.type("[]", "[a]");
        TEXTS.type("True", "Bool");
        TEXTS.type("not", "Bool -> Bool");
        TEXTS.type("(+)", "Int -> Int -> Int");
        TEXTS.type("(:)", "a -> [a] -> [a]");
        TEXTS.type("(`div`)", "Int -> Int -> Int");
        TEXTS.type("((1))", "Int");
        TEXTS.faultOfQuery(6, "not " + AT + "1");
        TEXTS.faultOfQuery(6, "not " + AT + "()");
        TEXTS.faultOfQuery(6, "not " + AT + "[]");
        TEXTS.faultOfQuery(6, "1+" + AT + "True");
        TEXTS.faultOfQuery(6, "not " + AT + "not");
        // ( Op ) is judged at the Op's first token, what is in brackets at itself.
        TEXTS.faultOfQuery(6, "not(" + AT + "+)");
        TEXTS.faultOfQuery(6, "not(" + AT + "`div`)");
        TEXTS.faultOfQuery(6, "not(" + AT + ":)");
        TEXTS.faultOfQuery(6, "not((" + AT + "1))");
    }

    private static void applications() {
        TEXTS.type("div 1", "Int -> Int");
        TEXTS.type("(\\x->x)1", "Int");
        TEXTS.type("failed 1()True", "a");
        TEXTS.type("map not", "[Bool] -> [Bool]");
        TEXTS.faultOfQuery(6, AT + "1 2");
        TEXTS.faultOfQuery(6, AT + "not True True");
        TEXTS.faultOfQuery(6, "(" + AT + "1)2");
        TEXTS.faultOfQuery(6, "(" + AT + "not True)1");
        TEXTS.faultOfQuery(6, "(\\x->" + AT + "1)2 3");
        TEXTS.faultOfQuery(6, "div " + AT + "True False");
        TEXTS.faultOfQuery(6, "div 1 " + AT + "False");
        TEXTS.faultOfQuery(6, "map " + AT + "True");
    }

    private static void operators() {
        TEXTS.type("1:[]", "[Int]");
        TEXTS.type("1==2", "Bool");
        TEXTS.faultOfQuery(6, AT + "True+1");
        TEXTS.faultOfQuery(6, "1+" + AT + "True");
        TEXTS.faultOfQuery(6, AT + "True+False");
        TEXTS.faultOfQuery(6, "1==" + AT + "True");
        TEXTS.faultOfQuery(6, "1 " + AT + "`not` 2");
        TEXTS.faultOfQuery(6, "not$ 1" + AT + "+2");
        TEXTS.faultOfQuery(6, "1:" + AT + "2");
        TEXTS.faultOfQuery(6, "not$ 1" + AT + ":[]");
    }

    private static void sections() {
        TEXTS.type("(1+)", "Int -> Int");
        TEXTS.type("(+1)", "Int -> Int");
        TEXTS.type("(:[])", "a -> [a]");
        TEXTS.type("(`div`1)", "Int -> Int");
        TEXTS.type("(failed`div`)", "Int -> Int");
        TEXTS.type("(.not)", "(Bool -> a) -> Bool -> a");
        // (e Op): the Op first, then e; (Op e): at the ( first, then the Op, then e.
        TEXTS.faultOfQuery(6, "(" + AT + "True+)");
        TEXTS.faultOfQuery(6, "not(1" + AT + "+)");
        TEXTS.faultOfQuery(6, "not(True" + AT + "+)");
        TEXTS.faultOfQuery(6, "(1" + AT + "`not`)2");
        TEXTS.faultOfQuery(6, "(+" + AT + "True)");
        TEXTS.faultOfQuery(6, "not" + AT + "(+1)");
        TEXTS.faultOfQuery(6, "not" + AT + "(+True)");
        TEXTS.faultOfQuery(6, "(" + AT + "`not`1)");
        TEXTS.faultOfQuery(6, "not((" + AT + "+True)True)");
    }

    private static void sets() {
        TEXTS.type("set not True", "[Bool]");
        TEXTS.type("set failed", "[a]");
        TEXTS.type("set map not[]", "[[Bool]]");
        // At set, then f at f, then the Atoms.
        TEXTS.faultOfQuery(6, "not(" + AT + "set not True)");
        TEXTS.faultOfQuery(6, "not(" + AT + "set not 1)");
        TEXTS.faultOfQuery(6, "1:set " + AT + "not True");
        TEXTS.faultOfQuery(6, "1:set " + AT + "not 1");
        TEXTS.faultOfQuery(6, "set not " + AT + "1");
        TEXTS.faultOfQuery(6, "set div " + AT + "()True");
        TEXTS.faultOfQuery(6, "set div 1 " + AT + "True");
    }

    private static void lambdas() {
        TEXTS.type("\\x->x", "a -> a");
        TEXTS.type("\\x y->x", "a -> b -> a");
        TEXTS.type("\\_ _->1", "a -> b -> Int");
        TEXTS.type("\\f x->f x x", "(a -> a -> b) -> a -> b");
        TEXTS.faultOfQuery(6, "not(" + AT + "\\x->x)");
        TEXTS.faultOfQuery(6, "not(" + AT + "\\x->not 1)");
        TEXTS.faultOfQuery(6, "(\\x->x+1)" + AT + "True");
        TEXTS.faultOfQuery(6, "(\\x->not x)" + AT + "1");
        TEXTS.faultOfQuery(6, "\\x->(x+1,not " + AT + "x)");
        TEXTS.faultOfQuery(6, "1+(\\x->" + AT + "True)2");
    }

    private static void lets() {
        TEXTS.type("let{x=1}in x", "Int");
        TEXTS.faultOfQuery(6, "let{x=not " + AT + "1}in 1+True");
        TEXTS.faultOfQuery(6, "let{x=1}in not " + AT + "x");
        TEXTS.faultOfQuery(6, "let{x=1;y=not " + AT + "x}in y");
        TEXTS.faultOfQuery(6, "let{x=1;y=not " + AT + "2;z=not 3}in x");
        TEXTS.faultOfQuery(6, "not(let{x=1}in " + AT + "2)");
        TEXTS.faultOfQuery(6, "let{x free}in(x+1,not " + AT + "x)");
        TEXTS.type("let{x,y free}in(x,y)", "(a, b)");
    }

    private static void choices() {
        TEXTS.type("if True then 1 else 2", "Int");
        TEXTS.faultOfQuery(6, "if " + AT + "1 then not 2 else()");
        TEXTS.faultOfQuery(6, "if True then not " + AT + "1 else()");
        TEXTS.faultOfQuery(6, "if True then 1 else" + AT + "()");
        TEXTS.faultOfQuery(6, "if True then()else " + AT + "1");
        TEXTS.faultOfQuery(6, "not(if True then " + AT + "1 else 2)");
        for (String word : new String[] {"case ", "fcase "}) {
            TEXTS.type(word + "1 of{x->x}", "Int");
            TEXTS.type(word + "failed of{x->x}", "a");
            TEXTS.faultOfQuery(6, word + "1+" + AT + "True of{()->2}");
            TEXTS.faultOfQuery(6, word + "1 of{" + AT + "()->not 1}");
            TEXTS.faultOfQuery(6, word + "1 of{x->not " + AT + "x}");
            TEXTS.faultOfQuery(6, word + "1 of{_->1;_->" + AT + "()}");
            TEXTS.faultOfQuery(6, word + "1 of{1->1;" + AT + "True->2}");
            TEXTS.faultOfQuery(6, word + "1 of{1->not " + AT + "1;True->2}");
            TEXTS.faultOfQuery(6, "not(" + word + "1 of{_->" + AT + "1;True->2})");
        }
    }

    private static void tuplesAndLists() {
        TEXTS.type("(1,True)", "(Int, Bool)");
        TEXTS.type("(1,True,())", "(Int, Bool, ())");
        TEXTS.type("[1,2]", "[Int]");
        TEXTS.type("[[],[[]]]", "[[[a]]]");
        TEXTS.faultOfQuery(6, "not" + AT + "(1,2)");
        TEXTS.faultOfQuery(6, "not" + AT + "(not 1,2)");
        TEXTS.faultOfQuery(6, "not" + AT + "[1]");
        TEXTS.faultOfQuery(6, "not" + AT + "[not 1]");
        TEXTS.faultOfQuery(6, "1:[" + AT + "True]");
        TEXTS.faultOfQuery(6, "1:" + AT + "(2,3)");
        TEXTS.faultOfQuery(6, "[1," + AT + "True]");
        TEXTS.faultOfQuery(6, "[1," + AT + "(),True]");
        TEXTS.faultOfQuery(6, "(1,2)==(1," + AT + "())");
        TEXTS.faultOfQuery(6, "(1,2)==(" + AT + "(),())");
        TEXTS.faultOfQuery(6, "(1,2)==" + AT + "(1,2,3)");
    }

    private static void patterns() {
        TEXTS.behind("data P a b=P a b|N");
        TEXTS.goodQuery("case 1 of{1->1;_->2;x->3;x@y->4}");
        TEXTS.faultOfQuery(6, "case()of{" + AT + "1->2}");
        TEXTS.faultOfQuery(6, "case 1 of{x@" + AT + "True->2}");
        TEXTS.faultOfQuery(6, "case 1 of{x@y@" + AT + "True->2}");
        TEXTS.faultOfQuery(6, "case 1 of{" + AT + "True->2}");
        TEXTS.faultOfQuery(6, "case 1 of{" + AT + "P()()->2}");
        TEXTS.faultOfQuery(6, "case P 1 True of{P x " + AT + "2->x}");
        TEXTS.faultOfQuery(6, "case P 1 True of{P" + AT + "()2->1}");
        TEXTS.faultOfQuery(6, "case failed of{P 1()->1;P" + AT + "()1->2}");
        TEXTS.goodQuery("(case N of{P 1()->1},case N of{P()1->2})");
        TEXTS.faultOfQuery(6, "case 1 of{" + AT + "()->1}");
        TEXTS.faultOfQuery(6, "case 1 of{" + AT + "(x,y)->1}");
        TEXTS.faultOfQuery(6, "case(1,2)of{" + AT + "(x,y,z)->1}");
        TEXTS.faultOfQuery(6, "case(1,2)of{(x," + AT + "())->1}");
        TEXTS.faultOfQuery(6, "case(1,2)of{(" + AT + "[],())->1}");
        TEXTS.faultOfQuery(6, "case 1 of{" + AT + "[]->1}");
        TEXTS.faultOfQuery(6, "case 1 of{" + AT + "[()]->1}");
        TEXTS.faultOfQuery(6, "case[1]of{[x," + AT + "()]->1}");
        // p : q at the : , then p, then q.
        TEXTS.faultOfQuery(6, "case 1 of{()" + AT + ":[]->1}");
        TEXTS.faultOfQuery(6, "case[1]of{" + AT + "():1->1}");
        TEXTS.faultOfQuery(6, "case[1]of{x:" + AT + "1->1}");
        TEXTS.faultOfQuery(6, "case[1]of{x:" + AT + "():[]->1}");
        TEXTS.faultOfQuery(6, "case[1]of{x:y:" + AT + "()->1}");
        TEXTS.faultOfQuery(6, "case[1]of{x:(y" + AT + ":z):u->1}");
        TEXTS.behind("");
    }

    private static void rules() {
        TEXTS.goodModule("f::Int->Int\nf x=x");
        TEXTS.faultOfModule(6, "f::Int->Int\nf" + AT + "()=1");
        TEXTS.faultOfModule(6, "f::Int->Int\nf x=" + AT + "True");
        TEXTS.faultOfModule(6, "(%)::Int->()->Int\n1%" + AT + "2=1");
        TEXTS.faultOfModule(6, "(%)::Int->()->Int\n" + AT + "()%2=1");
        // What is left of the signature.
        TEXTS.goodModule("f::Int->Int->Int\nf x=div x");
        TEXTS.goodModule("f::Int->Int->Int\nf=div");
        TEXTS.faultOfModule(6, "f::Int->Int->Int\nf x=" + AT + "1");
        TEXTS.faultOfModule(6, "f::Int->Int->Int\nf x y=" + AT + "div x");
        TEXTS.goodModule("f::Int\nf|True=1|False=2");
        TEXTS.faultOfModule(6, "f::Int\nf|" + AT + "1=2");
        TEXTS.faultOfModule(6, "f::Int\nf|True=" + AT + "()");
        TEXTS.faultOfModule(6, "f::Int\nf=x where{x=1;y=not " + AT + "x}");
        TEXTS.faultOfModule(6, "f::Int\nf=" + AT + "x where{x=True}");
    }

    private static void namesOfSignatures() {
        TEXTS.goodModule("f::a->a\nf x=x");
        TEXTS.goodModule("f::a\nf=failed");
        TEXTS.goodModule("f::[a]->a\nf(x:_)=x");
        TEXTS.faultOfModule(6, "f::a->b\nf x=" + AT + "x");
        TEXTS.faultOfModule(6, "f::a->a\nf x=" + AT + "1");
        TEXTS.faultOfModule(6, "f::a->a\nf " + AT + "1=1");
        TEXTS.faultOfModule(6, "f::a->a\nf x=x" + AT + "+1");
        TEXTS.faultOfModule(6, "f::a->Int\nf x=" + AT + "x+1");
        TEXTS.faultOfModule(6, "f::a->Int\nf x=1+" + AT + "x");
        TEXTS.faultOfModule(6, "f::a->Int\nf x=" + AT + "x 1");
        TEXTS.faultOfModule(6, "f::a->[a]\nf x=" + AT + "x");
        String same = "g::b->b->Int\n";
        TEXTS.goodModule(same + "f::a->a->Int\nf x y=g x y");
        TEXTS.faultOfModule(6, same + "f::a->b->Int\nf x y=g x " + AT + "y");
        // Wherever a function stands its NAMES are new unknowns, in its own rules, too.
        TEXTS.goodModule("f::a->Int\nf x=f 1+f True+f x+f[x]");
        TEXTS.goodModule("f::a->Int\nf x=1\ng::Int\ng=f 1+f()");
    }

    private static void unknownsInThemselves() {
        TEXTS.faultOfQuery(6, "\\x->x " + AT + "x");
        TEXTS.faultOfQuery(6, "\\x->x:" + AT + "x");
        TEXTS.faultOfQuery(6, "let{x free}in x=:=[" + AT + "x]");
        TEXTS.faultOfQuery(6, "let{x free}in x=:=(1," + AT + "x)");
        TEXTS.goodQuery("let{x free}in x=:=x");
        TEXTS.goodQuery("let{x,y free}in x=:=y&y=:=x&x=:=x");
        TEXTS.goodQuery("let{x,y free}in x=:=[y]&[y]=:=x");
        TEXTS.faultOfQuery(6, "let{x,y free}in x=:=[y]&y=:=[" + AT + "x]");
        TEXTS.goodQuery("let{x,y free}in x=:=[y]&y=:=y");
        TEXTS.faultOfQuery(6, "\\f g->(f g,g " + AT + "f)");
        TEXTS.faultOfQuery(6, "let{z= \\y->y " + AT + "y}in 1");
    }

    /** A function or constructor has new unknowns wherever it stands, a NAME one type. */
    private static void oneTypeOrNew() {
        TEXTS.type("(failed+1,not failed)", "(Int, Bool)");
        TEXTS.type("(map not[],map(+1)[])", "([Bool], [Int])");
        TEXTS.type("([]==[1],[]==[True])", "(Bool, Bool)");
        TEXTS.faultOfQuery(6, "let{i= \\x->x}in(i 1,i " + AT + "True)");
        TEXTS.faultOfQuery(6, "let{e=[]}in(e==[1],e==[" + AT + "True])");
        TEXTS.faultOfQuery(6, "\\f->(f 1,f " + AT + "True)");
        TEXTS.faultOfQuery(6, "case[]of{e->(e==[1],e==[" + AT + "True])}");
        TEXTS.faultOfQuery(6, "(x+1,not " + AT + "x)where{x free}");
    }

    private static void orderInRules() {
        TEXTS.faultOfModule(6, "f::Int->Int\nf x=" + AT + "True\nf()=1");
        TEXTS.faultOfModule(6, "g::Int\nf::Int\nf=" + AT + "True\ng=True");
        TEXTS.faultOfModule(6, "f::Int->Int\nf " + AT + "True=()where{x=not 1}");
        TEXTS.faultOfModule(6, "f::Int->Int->Int\nf" + AT + "()()=True");
        TEXTS.faultOfModule(6, "f::Int->Int->Int\nf 1" + AT + "()=True");
        TEXTS.faultOfModule(6, "(%)::Int->Int->Int\n" + AT + "()%()=True");
        // The LDecls of the Block come ahead of guards and Exprs.
        TEXTS.faultOfModule(6, "f::Int\nf=()where{y=not " + AT + "1}");
        TEXTS.faultOfModule(6, "f::Int\nf|1=()|2=()where{y=not " + AT + "3;z=not 4}");
        TEXTS.faultOfModule(6, "f::Int\nf|" + AT + "1=()|2=()");
        TEXTS.faultOfModule(6, "f::Int\nf|True=" + AT + "()|2=()");
        TEXTS.faultOfModule(6, "f::Int\nf|True=1|" + AT + "2=()");
        TEXTS.faultOfModule(6, "f::Int\nf|True=1|False=" + AT + "()");
        // A Query's Block comes first.
        TEXTS.faultOfQuery(6, "not 1 where{x=not " + AT + "2}");
        TEXTS.faultOfQuery(6, "not " + AT + "1 where{x=not True}");
        TEXTS.faultOfQuery(6, "not " + AT + "x where{x=1}");
    }

    private static void orderInExpressions() {
        TEXTS.faultOfQuery(6, "not$(not 1)" + AT + "+2");
        TEXTS.faultOfQuery(6, "not((not 1)" + AT + "+)");
        TEXTS.faultOfQuery(6, "not" + AT + "(+not 1)");
        TEXTS.faultOfQuery(6, "div" + AT + "()True");
        TEXTS.faultOfQuery(6, "[if True then not " + AT + "1 else not 2,()]");
        TEXTS.faultOfQuery(6, "(not " + AT + "1,not 2)");
        TEXTS.faultOfQuery(6, "(\\x->not " + AT + "1)(not 2)");
        TEXTS.faultOfQuery(6, "(let{x=not " + AT + "1;y=not 2}in not 3)");
        TEXTS.faultOfQuery(6, "case not " + AT + "1 of{1->not 2}");
        TEXTS.faultOfQuery(6, "set div(" + AT + "not 1)(not 2)");
    }

    private static void printed() {
        String types = "data T a=A\ndata U a b=B\nf::((a->b))->((c)->[(d)])\n"
                + "g::T(T a)->T[a]->T(a,b)->T(a->b)->T()->T Int->(T a)\nh::z->y->z->(x)\ni::[a->b]->(a->b,c->(d->e))->((a->b)->c)->d\n"
                + "j::U(T a)(U a b)->[U Int()]->(U a b,Bool)\nk::()\nl::(((a->b)->c)->d)->(e->(f->g))\nm::U[T a](a->Int)\n";
        String[] due = {"(a -> b) -> c -> [d]", "T (T a) -> T [a] -> T (a, b) -> T (a -> b) -> T () -> T Int -> T a", "a -> b -> a -> c",
            "[a -> b] -> (a -> b, c -> d -> e) -> ((a -> b) -> c) -> d", "U (T a) (U a b) -> [U Int ()] -> (U a b, Bool)", "()",
            "(((a -> b) -> c) -> d) -> e -> f -> g", "U [T a] (a -> Int)"};
        Tongue t = Tongue.with(types);
        for (int f = 0; f < due.length; f++) {
            CHECKS.same("11: type of function " + f, t.show(1, 28 + f), due[f]);
        }
        String[] prelude = {"+ Int -> Int -> Int", "== a -> a -> Bool", "span Int -> Int -> Int -> Bool", "atMost [Int] -> [Int] -> Int -> Bool",
            "label [Int] -> Bool", "$ (a -> b) -> a -> b", ". (a -> b) -> (c -> a) -> c -> b", "map (a -> b) -> [a] -> [b]", "failed a"};
        int found = 0;
        for (int f = 0; f < 28; f++) {
            for (String line : prelude) {
                if (line.startsWith(t.show(0, f) + " ")) {
                    CHECKS.same("11: type", t.show(0, f) + " " + t.show(1, f), line);
                    found++;
                }
            }
        }
        CHECKS.same("11: all were there", found, prelude.length);
    }

    /** a .. z, then a1 .. z1, then a2 .. , by their first coming. */
    private static void manyUnknowns() {
        for (int count : new int[] {1, 2, 25, 26, 27, 28, 51, 52, 53, 54, 79}) {
            StringBuilder text = new StringBuilder();
            StringBuilder type = new StringBuilder();
            for (int i = 0; i < count; i++) {
                text.append(i % 16 == 0 ? "\\" : " ").append("v").append(i).append(i % 16 == 15 || i == count - 1 ? "-> " : "");
                type.append((char) ('a' + i % 26)).append(i < 26 ? "" : "" + i / 26).append(" -> ");
            }
            TEXTS.type(text + "()", type + "()");
            TEXTS.type(text + "v" + (count - 1), type + type.substring(0, type.length() - 4).replaceAll(".* ", ""));
        }
    }
}
