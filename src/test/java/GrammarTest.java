/** Part I, GRAMMAR: what can stand where; at most 16 Ops of one Row, and at most 30 that are OPEN. */
public final class GrammarTest {
    private static final String AT = Texts.AT;
    private static final Checks CHECKS = new Checks();
    private static final Texts TEXTS = new Texts(CHECKS);

    public static void main(String[] args) {
        declarations();
        types();
        heads();
        rightSides();
        patterns();
        expressions();
        atoms();
        tails();
        operators();
        openBrackets();
        openWords();
        openTypesAndPatterns();
        closed();
        CHECKS.end();
    }

    private static void declarations() {
        TEXTS.goodModule("data T=A");
        TEXTS.goodModule("data T a b=A b|B a|C");
        TEXTS.faultOfModule(2, "data T=" + AT);
        TEXTS.faultOfModule(2, "data T" + AT);
        TEXTS.faultOfModule(2, "data" + AT);
        TEXTS.faultOfModule(2, "data T=A|" + AT);
        TEXTS.faultOfModule(2, "data T=A B" + AT + ";");
        TEXTS.faultOfModule(2, "data T " + AT + "1=A");
        TEXTS.faultOfModule(2, "data T a " + AT + "B=A");
        TEXTS.faultOfModule(2, "data " + AT + "t=A");
        TEXTS.faultOfModule(2, "data T=A " + AT + "->A");
        String op = "\n(+++)::Int->Int->Int";
        for (int strength = 0; strength <= 9; strength++) {
            TEXTS.goodModule("infix" + (strength % 3 == 0 ? "" : strength % 3 == 1 ? "l" : "r") + " " + strength + " +++" + op);
        }
        TEXTS.goodModule("infixl 000000009 +++" + op);
        TEXTS.faultOfModule(2, "infixl " + AT + "10 +++" + op);
        TEXTS.faultOfModule(2, "infixr " + AT + "999999999 +++" + op);
        TEXTS.faultOfModule(2, "infix " + AT + "+++" + op);
        for (String token : new String[] {"(", ")", "[", "]", "{", "}", ",", ";", "`", "=", "|", "->", "::", "\\", "@", ":", "_", "f", "F", "***",
            "case", "data", "else", "fcase", "free", "if", "in", "infix", "infixl", "infixr", "let", "of", "set", "then", "where"}) {
            for (String word : new String[] {"infix", "infixl", "infixr"}) {
                TEXTS.faultOfModule(2, word + " " + AT + token + " +++" + op);
                TEXTS.faultOfModule(2, word + " " + AT + token + " 3 +++" + op);
            }
            if (!token.equals("`") && !token.equals(":") && !token.equals("***")) {
                TEXTS.faultOfModule(2, "infixl 3 " + AT + token + op);
            }
            if (!token.equals(",")) {
                TEXTS.faultOfModule(2, "infixl 3 +++ " + AT + token + op);
            }
        }
        TEXTS.faultOfModule(2, "infix 3" + AT);
        TEXTS.faultOfModule(2, "infix 3 +++," + AT);
        TEXTS.faultOfModule(2, "infix 3 " + AT + "f");
        TEXTS.faultOfModule(2, "infix 3 " + AT + "(+++)");
        TEXTS.faultOfModule(2, "infix 3 " + AT + "=");
        TEXTS.faultOfModule(2, "infix 3 +++ " + AT + "***");
        TEXTS.faultOfModule(2, "infix 3 `f" + AT);
        TEXTS.faultOfModule(2, "infix 3 `" + AT + "F`");
        TEXTS.faultOfModule(2, "infix 3 `" + AT + "+`");
        TEXTS.goodModule("infix 3 `f`,+++\nf::Int->Int->Int" + op);
        TEXTS.faultOfModule(3, "infix 3 " + AT + ":");
        TEXTS.goodModule("f::Int");
        TEXTS.goodModule("(+++)::Int");
        TEXTS.faultOfModule(2, "(" + AT + ":)::Int");
        TEXTS.faultOfModule(2, "(" + AT + "`f`)::Int");
        TEXTS.faultOfModule(2, "(+++ " + AT + "::Int");
        TEXTS.faultOfModule(2, "f" + AT + ",g::Int");
        TEXTS.faultOfModule(2, "F" + AT + "::Int");
        TEXTS.faultOfModule(2, "(+++)" + AT + "=1");
        TEXTS.faultOfModule(2, AT + "in x");
        TEXTS.faultOfModule(2, AT + "where");
        TEXTS.faultOfModule(2, "1" + AT);
        TEXTS.faultOfModule(2, "f::Int\nf=1" + AT + ";");
    }

    private static void types() {
        for (String type : new String[] {"a", "Int", "()", "(Int)", "((a))", "(a,b)", "(a,b,c)", "[a]", "[[a]]", "a->b", "a->b->c", "(a->b)->c",
                "[a->b]", "(a->b,c)", "Int->()"}) {
            TEXTS.goodModule("f::" + type);
        }
        TEXTS.faultOfModule(2, "f::(a,b,c" + AT + ",d)");
        TEXTS.faultOfModule(2, "f::(a," + AT + ")");
        TEXTS.faultOfModule(2, "f::(" + AT + ",a)");
        TEXTS.faultOfModule(2, "f::[" + AT + "]");
        TEXTS.faultOfModule(2, "f::[a" + AT + ",b]");
        TEXTS.faultOfModule(2, "f::a->" + AT);
        TEXTS.faultOfModule(2, "f::a " + AT + "b");
        TEXTS.faultOfModule(2, "f::[a]" + AT + "[b]");
        TEXTS.faultOfModule(2, "f::" + AT + "_");
        TEXTS.faultOfModule(2, "f::" + AT + "1");
        TEXTS.faultOfModule(2, "f:: " + AT + "->a");
        TEXTS.faultOfModule(2, "f::(a" + AT + "]");
        String data = "data T a b=C\n";
        TEXTS.goodModule(data + "f::T Int[a]->T(T a b)()");
        // A BIG behind a BIG has no ATypes of its own.
        TEXTS.faultOfModule(5, data + "f::" + AT + "T T a b");
        TEXTS.goodModule(data + "data U a=D a(T a a)[a]Int()(a,a)(a->a)");
        TEXTS.faultOfModule(2, data + "data U a=D a" + AT + "->a");
    }

    private static void heads() {
        String signature = "f::a->a->Int\n(%)::a->a->Int\n";
        for (String rule : new String[] {"f x y=1", "f _ _=1", "f(x)y=1", "x`f`y=1", "x%y=1", "_%_=1", "(x)%(y)=1", "x@y%z=1", "x@(y)%_=1", "f x@y@z _=1"}) {
            TEXTS.goodModule(signature + rule);
        }
        TEXTS.goodModule("f::[a]->Int->()->Bool->(a,b)->(a,b,c)->Int\nf[x,y]1()True(a,b)(c,d,e)=1");
        TEXTS.goodModule("(%)::Bool->Int->Int\nTrue%1=1");
        TEXTS.goodModule("(%)::[a]->[a]->Int\n[]%[]=1\n[x]%_=2\n(x:y)%(z:u:v)=3");
        TEXTS.faultOfModule(2, signature + "f x" + AT + "%y=1");
        TEXTS.faultOfModule(2, signature + "x" + AT + ":y=1");
        TEXTS.faultOfModule(2, signature + "(x:y)" + AT + ":z=1");
        TEXTS.faultOfModule(2, signature + "x@y " + AT + "z=1");
        TEXTS.faultOfModule(2, signature + "x@ " + AT + "=1");
        TEXTS.faultOfModule(2, signature + "(x)" + AT + "y=1");
        TEXTS.faultOfModule(2, signature + "True " + AT + "x=1");
        TEXTS.faultOfModule(2, signature + "_" + AT + "=1");
        TEXTS.faultOfModule(2, signature + AT + "%x=1");
        TEXTS.faultOfModule(2, signature + "x% " + AT + "=1");
        TEXTS.faultOfModule(2, signature + "x%y" + AT + "%z=1");
        TEXTS.faultOfModule(2, signature + "x%y " + AT + "z=1");
        TEXTS.faultOfModule(2, signature + "x`f" + AT + "%y=1");
        TEXTS.faultOfModule(2, signature + "f x " + AT + "if=1");
        TEXTS.faultOfModule(2, signature + "f(" + AT + "%)=1");
    }

    private static void rightSides() {
        String signature = "f::Int\n";
        TEXTS.goodModule(signature + "f|True=1");
        TEXTS.goodModule(signature + "f|True=1|False=2|True=3");
        TEXTS.goodModule(signature + "f|True=1 where{x=1}");
        TEXTS.faultOfModule(2, signature + "f|True" + AT);
        TEXTS.faultOfModule(2, signature + "f|True=1|False" + AT);
        TEXTS.faultOfModule(2, signature + "f| " + AT + "=1");
        TEXTS.faultOfModule(2, signature + "f=1" + AT + "|True=1");
        TEXTS.faultOfModule(2, signature + "f=1" + AT + "=2");
        TEXTS.goodModule(signature + "f=1 where{x=1}");
        TEXTS.goodModule(signature + "f=1 where{x=1;y=2;z free;u,v free}");
        TEXTS.faultOfModule(2, signature + "f=1 where{" + AT + "}");
        TEXTS.faultOfModule(2, signature + "f=1 where{x=1;" + AT + "}");
        TEXTS.faultOfModule(2, signature + "f=1 where " + AT + "x=1");
        TEXTS.faultOfModule(2, signature + "f=1 where{x=1" + AT);
        TEXTS.faultOfModule(2, signature + "f=1 where{x=1" + AT + ",y=2}");
        TEXTS.faultOfModule(2, signature + "f=1 where{x,y" + AT + "=1}");
        TEXTS.faultOfModule(2, signature + "f=1 where{x," + AT + "free}");
        TEXTS.faultOfModule(2, signature + "f=1 where{x" + AT + "}");
        TEXTS.faultOfModule(2, signature + "f=1 where{x " + AT + "y=1}");
        TEXTS.faultOfModule(2, signature + "f=1 where{" + AT + "X=1}");
        TEXTS.faultOfModule(2, signature + "f=1 where{x=1}" + AT + "where{y=1}");
        TEXTS.goodQuery("1 where{x=1}");
        TEXTS.faultOfQuery(2, "1 where{x=1}" + AT + "+1");
        TEXTS.faultOfQuery(2, "1 where" + AT);
        TEXTS.faultOfQuery(2, AT + "where{x=1}");
    }

    private static void patterns() {
        TEXTS.goodQuery("case 1 of{_->1}");
        TEXTS.goodQuery("case 1 of{1->1;x->2;(y)->3;z@_->4}");
        TEXTS.goodQuery("case[1]of{[]->1;[x]->2;[x,y]->3;x:y:z->4;x:[]->5}");
        TEXTS.goodQuery("case(1,2)of{(x,y)->1}");
        TEXTS.goodQuery("case(1,2,3)of{(x,y,z)->1}");
        TEXTS.goodQuery("case True of{True->1;False->2}");
        TEXTS.goodQuery("case[True]of{True:[]->1}");
        TEXTS.faultOfQuery(2, "case 1 of{" + AT + "}");
        TEXTS.faultOfQuery(2, "case 1 of{_->1;" + AT + "}");
        TEXTS.faultOfQuery(2, "case 1 of " + AT + "_->1");
        TEXTS.faultOfQuery(2, "case 1 of{_" + AT + "}");
        TEXTS.faultOfQuery(2, "case 1 of{_->" + AT + "}");
        TEXTS.faultOfQuery(2, "case 1 of{_->1" + AT);
        TEXTS.faultOfQuery(2, "case 1" + AT);
        TEXTS.faultOfQuery(2, "case 1 of{(1,2,3" + AT + ",4)->1}");
        TEXTS.faultOfQuery(2, "case 1 of{(1," + AT + ")->1}");
        TEXTS.faultOfQuery(2, "case 1 of{[1," + AT + "]->1}");
        TEXTS.faultOfQuery(2, "case 1 of{x: " + AT + "->1}");
        TEXTS.faultOfQuery(2, "case 1 of{x " + AT + "y->1}");
        TEXTS.faultOfQuery(2, "case 1 of{x" + AT + "+1->1}");
        TEXTS.faultOfQuery(2, "case 1 of{" + AT + "->1}");
        TEXTS.faultOfQuery(2, "case 1 of{x@True " + AT + "y->1}");
        // An APat is no BIG with patterns behind it, but in a Pat.
        TEXTS.behind("data M=J Int|N\nf::M->M->Int");
        TEXTS.goodQuery("case J 1 of{J x->x;N->2}");
        TEXTS.goodQuery("case J 1 of{x@(J _)->1}");
        TEXTS.faultOfQuery(2, "case J 1 of{x@J " + AT + "_->1}");
        TEXTS.faultOfQuery(5, "case N of{" + AT + "J->1}");
        TEXTS.goodQuery("case[N]of{J x:y->x;N:_->2}");
        TEXTS.behind("");
        TEXTS.goodModule("data M=J Int|N\nf::M->M->Int\nf(J x)N=1");
        TEXTS.faultOfModule(5, "data M=J Int|N\nf::M->M->Int\n" + AT + "f J x N=1");
    }

    private static void expressions() {
        TEXTS.goodQuery("\\x->1");
        TEXTS.goodQuery("\\x _ y->1");
        TEXTS.faultOfQuery(2, "\\ " + AT + "->1");
        TEXTS.faultOfQuery(2, "\\x" + AT);
        TEXTS.faultOfQuery(2, "\\x->" + AT);
        TEXTS.faultOfQuery(2, "\\x " + AT + "1->1");
        TEXTS.faultOfQuery(2, "\\x" + AT + "@y->1");
        TEXTS.goodQuery("let{x=1}in x");
        TEXTS.faultOfQuery(2, "let " + AT + "x=1 in x");
        TEXTS.faultOfQuery(2, "let{" + AT + "}in 1");
        TEXTS.faultOfQuery(2, "let{x=1}" + AT);
        TEXTS.faultOfQuery(2, "let{x=1}in" + AT);
        TEXTS.goodQuery("if True then 1 else 2");
        TEXTS.faultOfQuery(2, "if True then 1" + AT);
        TEXTS.faultOfQuery(2, "if True " + AT + "else 2");
        TEXTS.faultOfQuery(2, "if True then 1 else" + AT);
        TEXTS.faultOfQuery(2, "if" + AT);
        TEXTS.goodQuery("fcase 1 of{_->1}");
        TEXTS.faultOfQuery(2, "fcase 1 of{" + AT + "}");
        TEXTS.goodQuery("set not True");
        TEXTS.goodQuery("set failed");
        TEXTS.faultOfQuery(2, "set" + AT);
        TEXTS.faultOfQuery(2, "set " + AT + "1");
        TEXTS.faultOfQuery(2, "set " + AT + "True");
        TEXTS.faultOfQuery(2, "set" + AT + "(not)True");
        TEXTS.faultOfQuery(2, "not " + AT + "set");
        TEXTS.faultOfQuery(2, AT + "=1");
        TEXTS.faultOfQuery(2, AT + "+1");
        TEXTS.faultOfQuery(2, "1 +" + AT);
        TEXTS.faultOfQuery(2, "1 + " + AT + "* 2");
        TEXTS.faultOfQuery(2, "1`div" + AT);
        TEXTS.faultOfQuery(2, "1`" + AT + "1`2");
        TEXTS.faultOfQuery(2, "1`" + AT + "if`2");
        TEXTS.faultOfQuery(2, "1" + AT + ";");
    }

    private static void atoms() {
        for (String atom : new String[] {"()", "(1)", "((1))", "(1,2)", "(1,2,3)", "[]", "[1]", "[1,2,3,4]", "(+)", "(:)", "(`div`)", "(1+)", "(1:)", "(1`div`)",
                "(+1)", "(:[])", "(`div`1)", "(not True&&)", "(&&not True)", "(.not)", "(if True then 1 else 2)", "(\\x->x)", "[\\x->x,\\y->y]"}) {
            TEXTS.goodQuery(atom);
        }
        TEXTS.faultOfQuery(2, "(1,2,3" + AT + ",4)");
        TEXTS.faultOfQuery(2, "(1," + AT + ")");
        TEXTS.faultOfQuery(2, "(" + AT + ",1)");
        TEXTS.faultOfQuery(2, "[1," + AT + "]");
        TEXTS.faultOfQuery(2, "[" + AT + ",1]");
        TEXTS.faultOfQuery(2, "(1" + AT + "]");
        TEXTS.faultOfQuery(2, "[1" + AT + ")");
        TEXTS.faultOfQuery(2, "(1" + AT + ";)");
        TEXTS.faultOfQuery(2, "(1+2+" + AT + ")");
        TEXTS.faultOfQuery(2, "(+1" + AT + "+2)");
        TEXTS.faultOfQuery(2, "(+" + AT + ",2)");
        TEXTS.faultOfQuery(2, "(1,2+" + AT + ")");
        TEXTS.faultOfQuery(2, "(1+" + AT + ",2)");
        TEXTS.faultOfQuery(2, "[1+" + AT + "]");
        TEXTS.faultOfQuery(2, "(+ " + AT + "if True then 1 else 2)");
        TEXTS.faultOfQuery(2, "(\\x->x+" + AT + ")");
        TEXTS.faultOfQuery(2, "(set not True&&True&&" + AT + ")");
        TEXTS.goodQuery("((set not True)==)");
        TEXTS.goodQuery("(set not True==)");
        TEXTS.goodQuery("(==set not True)");
    }

    /** A Tail is an operand, and ends as far as can be. */
    private static void tails() {
        TEXTS.all("1+if True then 2 else 3", "3; end");
        TEXTS.all("10+if True then 2 else 3+4", "12; end");
        TEXTS.all("10+if False then 2 else 3+4", "17; end");
        TEXTS.all("10*if False then 2 else 3+4", "70; end");
        TEXTS.all("10*let{x=3}in x+4", "70; end");
        TEXTS.all("10*case 3 of{x->x}", "30; end");
        TEXTS.all("(\\x->x)$ \\y->1", "<fun>; end");
        TEXTS.all("map$ \\x->x", "<fun>; end");
        TEXTS.faultOfQuery(2, "10*case 3 of{x->x}" + AT + "+4");
        TEXTS.faultOfQuery(2, "10*fcase 3 of{x->x} " + AT + "4");
        TEXTS.faultOfQuery(2, "not " + AT + "if True then True else True");
        TEXTS.faultOfQuery(2, "if True then 1 else 2 " + AT + "of");
        TEXTS.all("if True then 1 else 2 where{x=1}", "1; end");
    }

    private static String row(int ops) {
        return "1" + "+1".repeat(ops);
    }

    private static void operators() {
        TEXTS.all(row(15), "16; end");
        TEXTS.all(row(16), "17; end");
        TEXTS.faultOfQuery(2, row(16) + AT + "+1");
        TEXTS.faultOfQuery(2, row(16) + AT + "`div`1");
        TEXTS.faultOfQuery(2, row(16) + AT + ":1");
        TEXTS.faultOfQuery(2, row(16) + AT + "+if True then 1 else 1");
        TEXTS.all(row(15) + "+if True then 1 else 1", "17; end");
        // Each Row counts for itself: in brackets, of a Tail, of an Atom.
        TEXTS.all("(" + row(16) + ")" + ("+(" + row(16) + ")").repeat(16), "289; end");
        TEXTS.faultOfQuery(2, "(" + row(16) + ")" + ("+(" + row(16) + ")").repeat(15) + "+(" + row(16) + AT + "+1)");
        TEXTS.all(row(15) + "+if True then " + row(16) + " else " + row(16), "33; end");
        TEXTS.faultOfQuery(2, row(15) + "+if True then 1 else " + row(16) + AT + "+1");
        TEXTS.all("[" + row(16) + "," + row(16) + "]", "[17,17]; end");
        TEXTS.all("(" + row(16) + "," + row(16) + "," + row(16) + ")", "(17,17,17); end");
        TEXTS.all("let{x=" + row(16) + ";y=" + row(16) + "}in x" + "+1".repeat(14) + "+x+y", "65; end");
        TEXTS.all("case " + row(16) + " of{17->" + row(16) + ";_->" + row(16) + "}", "17; end");
        TEXTS.all(row(16) + " where{x=" + row(16) + "}", "17; end");
        TEXTS.goodModule("f::Int\nf|" + row(15) + "==16=" + row(16) + "|True=" + row(16));
        TEXTS.faultOfModule(2, "f::Int\nf|" + row(16) + AT + "==17=1");
    }

    /** So many times what begins, then as often what ends. */
    private static String deep(int times, String begin, String end) {
        return begin.repeat(times) + end.repeat(times);
    }

    private static void openBrackets() {
        TEXTS.all("(".repeat(29) + "1" + ")".repeat(29), "1; end");
        TEXTS.all("(".repeat(30) + "1" + ")".repeat(30), "1; end");
        TEXTS.faultOfQuery(2, "(".repeat(30) + AT + "(1");
        TEXTS.all("[".repeat(30) + "1" + "]".repeat(30), "[".repeat(30) + "1" + "]".repeat(30) + "; end");
        TEXTS.faultOfQuery(2, "[".repeat(30) + AT + "[1");
        TEXTS.faultOfQuery(2, "[(".repeat(15) + AT + "[1");
        TEXTS.goodQuery(deep(15, "[(", ")]"));
        // ( ) and [ ] open, too, and so do sections.
        TEXTS.goodQuery("(".repeat(29) + "()" + ")".repeat(29));
        TEXTS.faultOfQuery(2, "(".repeat(30) + AT + "()" + ")".repeat(30));
        TEXTS.faultOfQuery(2, "(".repeat(30) + AT + "[]" + ")".repeat(30));
        TEXTS.goodQuery("(".repeat(29) + "(+)" + ")".repeat(29));
        TEXTS.faultOfQuery(2, "(".repeat(30) + AT + "(+)" + ")".repeat(30));
        TEXTS.goodQuery("(".repeat(30) + "1+" + ")".repeat(30));
        TEXTS.goodQuery("(".repeat(30) + "+1" + ")".repeat(30));
        TEXTS.faultOfQuery(2, "(".repeat(30) + "+" + AT + "(1)" + ")".repeat(30));
        TEXTS.goodModule("f::Int\nf=1 where{x=" + "(".repeat(29) + "1" + ")".repeat(29) + "}");
        TEXTS.faultOfModule(2, "f::Int\nf=1 where{x=" + "(".repeat(29) + AT + "(1" + ")".repeat(30) + "}");
        TEXTS.goodQuery("1 where{x=" + "(".repeat(29) + "1" + ")".repeat(29) + "}");
        TEXTS.faultOfQuery(2, "1 where{x=" + "(".repeat(29) + AT + "(1" + ")".repeat(30) + "}");
    }

    private static void openWords() {
        TEXTS.goodQuery("\\x-> ".repeat(30) + "1");
        TEXTS.faultOfQuery(2, "\\x-> ".repeat(30) + AT + "\\x->1");
        TEXTS.faultOfQuery(2, "\\x-> ".repeat(30) + AT + "(1)");
        TEXTS.goodQuery("if True then 1 else ".repeat(30) + "1");
        TEXTS.faultOfQuery(2, "if True then 1 else ".repeat(30) + AT + "if True then 1 else 1");
        TEXTS.faultOfQuery(2, "if ".repeat(30) + AT + "if");
        TEXTS.goodQuery("if True then ".repeat(30) + "1" + " else 1".repeat(30));
        TEXTS.faultOfQuery(2, "if True then ".repeat(30) + AT + "[1]");
        // let opens, and so does its { until the } : one is left in what is behind.
        TEXTS.goodQuery("let{x=1}in ".repeat(29) + "1");
        TEXTS.faultOfQuery(2, "let{x=1}in ".repeat(29) + "let" + AT + "{x=1}in 1");
        TEXTS.goodQuery("let{x=1}in ".repeat(29) + "(1)");
        TEXTS.faultOfQuery(2, "let{x=1}in ".repeat(29) + "(" + AT + "(1))");
        TEXTS.goodQuery(deep(15, "let{x=", "1}in ") + "1");
        TEXTS.faultOfQuery(2, "let{x=".repeat(15) + AT + "let{");
        TEXTS.faultOfQuery(2, "let{x=".repeat(15) + AT + "(1)");
        // case opens, and so does its { : both are left in its Alts.
        for (String word : new String[] {"case", "fcase"}) {
            TEXTS.goodQuery((word + " 1 of{_->").repeat(15) + "1" + "}".repeat(15));
            TEXTS.faultOfQuery(2, (word + " 1 of{_->").repeat(15) + AT + word + " 1 of{_->1}");
            TEXTS.faultOfQuery(2, (word + " 1 of{_->").repeat(15) + AT + "(1)");
            TEXTS.goodQuery("(" + (word + " 1 of{_->").repeat(14) + "(1)" + "}".repeat(14) + ")");
            TEXTS.faultOfQuery(2, "(" + (word + " 1 of{_->").repeat(14) + word + " 1 of" + AT + "{_->1}" + "}".repeat(14) + ")");
            TEXTS.faultOfQuery(2, (word + " ").repeat(30) + AT + word);
            TEXTS.goodQuery((word + " ").repeat(29) + "1" + " of{_->1}".repeat(29));
            TEXTS.faultOfQuery(2, (word + " ").repeat(30) + "1 of" + AT + "{_->1}");
        }
    }

    private static void openTypesAndPatterns() {
        // 61 tokens would be too many for a signature.
        TEXTS.goodModule("f::" + "(".repeat(29) + "a" + ")".repeat(29));
        TEXTS.goodModule("f::" + "(".repeat(30) + ")".repeat(30));
        TEXTS.faultOfModule(2, "f::" + "(".repeat(30) + AT + "(a");
        TEXTS.faultOfModule(2, "f::" + "[".repeat(30) + AT + "[a");
        TEXTS.faultOfModule(2, "f::" + "(".repeat(30) + AT + "()");
        TEXTS.goodModule("data T a=A" + "(".repeat(29) + "a" + ")".repeat(29));
        TEXTS.goodModule("data T a=A" + "(".repeat(29) + ")".repeat(29));
        TEXTS.faultOfModule(2, "data T a=A" + "(".repeat(30) + AT + "(a");
        String signature = "f::a->Int\n";
        TEXTS.goodModule(signature + "f" + "(".repeat(30) + "x" + ")".repeat(30) + "=1");
        TEXTS.faultOfModule(2, signature + "f" + "(".repeat(30) + AT + "(x");
        TEXTS.faultOfModule(2, signature + "f" + "[".repeat(30) + AT + "[x");
        TEXTS.faultOfModule(2, signature + "f" + "(".repeat(30) + AT + "[]");
        TEXTS.goodQuery("case 1 of{" + "(".repeat(28) + "x" + ")".repeat(28) + "->1}");
        TEXTS.faultOfQuery(2, "case 1 of{" + "(".repeat(28) + AT + "(x)" + ")".repeat(28) + "->1}");
        TEXTS.goodQuery("\\x-> ".repeat(20) + "case failed of{" + "[".repeat(8) + "x" + "]".repeat(8) + "->1}");
        TEXTS.faultOfQuery(2, "\\x-> ".repeat(20) + "case failed of{" + "[".repeat(8) + AT + "[x]" + "]".repeat(8) + "->1}");
    }

    /** What is closed is OPEN no more. */
    private static void closed() {
        TEXTS.goodQuery("(1)" + "+(1)".repeat(16));
        TEXTS.goodQuery("[" + "(1),".repeat(40) + "(3)]");
        TEXTS.goodQuery("[" + "\\x->1,".repeat(40) + "\\x->1]");
        TEXTS.goodQuery("[" + "if True then 1 else 2,".repeat(40) + "1]");
        TEXTS.goodQuery("[" + "let{x=1}in x,".repeat(40) + "1]");
        TEXTS.goodQuery("[" + "case 1 of{_->1},".repeat(40) + "1]");
        TEXTS.goodQuery("[" + "fcase 1 of{_->1},".repeat(40) + "1]");
        TEXTS.goodQuery("let{" + "x= \\y->1;z=let{u=1}in u}in " + "(".repeat(29) + "1" + ")".repeat(29));
        TEXTS.goodQuery("if(if True then True else True)then(\\x->1)1 else " + "(".repeat(29) + "1" + ")".repeat(29));
        TEXTS.goodQuery("case(case 1 of{_->1})of{_->let{x=1}in 1;_->" + "(".repeat(28) + "1" + ")".repeat(28) + "}");
        TEXTS.goodModule("f::()->[()]->((),())->()\nf()[()]((),())=()\n" + "g::" + "(".repeat(30) + ")".repeat(30));
        TEXTS.goodModule("f::Int\nf=1 where{x=1}\ng::Int\ng=" + "(".repeat(30) + "1" + ")".repeat(30));
    }
}
