/** Part I, FAULTS 3 and 4: NAMES, each with texts that are good directly beside it, and STRENGTHS. */
public final class NamesTest {
    private static final String AT = Texts.AT;
    private static final Checks CHECKS = new Checks();
    private static final Texts TEXTS = new Texts(CHECKS);

    public static void main(String[] args) {
        typesAndConstructors();
        signatures();
        rules();
        infixes();
        toldTwice();
        unknown();
        behindSet();
        known();
        alike();
        firstKind();
        strengthsOfPairs();
        strengthsOfRows();
        otherStrengths();
        CHECKS.end();
    }

    private static void typesAndConstructors() {
        TEXTS.goodModule("f::Int->Bool");
        TEXTS.faultOfModule(3, "f::" + AT + "T");
        TEXTS.faultOfModule(3, "f::[(Int," + AT + "T)]->Int");
        TEXTS.faultOfModule(3, "data T=A " + AT + "U");
        TEXTS.faultOfModule(3, "f::" + AT + "True");
        // What is declared further on is a type, too, and so is the data itself.
        TEXTS.goodModule("f::T\ndata T=A");
        TEXTS.goodModule("data T=A U\ndata U=B T|C T U");
        TEXTS.goodModule("data T a=A a(T a)");
        TEXTS.faultOfModule(3, "data T a=A " + AT + "b");
        TEXTS.faultOfModule(3, "data T=A[" + AT + "a]");
        TEXTS.faultOfModule(3, "data T a=A a\ndata U=B " + AT + "a");
        TEXTS.goodModule("f::a->b");
        TEXTS.faultOfModule(3, "data T=A\ndata " + AT + "T=B");
        TEXTS.faultOfModule(3, "data " + AT + "Int=A");
        TEXTS.faultOfModule(3, "data " + AT + "Bool=A");
        TEXTS.goodModule("data T=T");
        TEXTS.goodModule("data True=Bool|Int");
        TEXTS.faultOfModule(3, "data T=A|B|" + AT + "A");
        TEXTS.faultOfModule(3, "data T=A\ndata U=" + AT + "A");
        TEXTS.faultOfModule(3, "data T=" + AT + "True");
        TEXTS.faultOfModule(3, "data T=A|" + AT + "False");
        TEXTS.faultOfModule(3, "data T a " + AT + "a=A");
        TEXTS.faultOfModule(3, "data T a b " + AT + "a=A");
        TEXTS.goodModule("data T a b=A\ndata U a b=B");
        // What a module before has declared is not there any more.
        Tongue t = Tongue.with("data T=A\nf::T\nf=A");
        CHECKS.same("another module", t.module("data T=A\nf::T"), 0);
        CHECKS.same("without the type", t.module("f::T"), -1 - 3);
        CHECKS.same("the one before stays", t.first("A"), "A");
    }

    private static void signatures() {
        TEXTS.faultOfModule(3, "f::Int\n" + AT + "f::Int");
        TEXTS.faultOfModule(3, "(%)::Int\n(" + AT + "%)::Int");
        TEXTS.faultOfModule(3, "f::Int\nf=1\n" + AT + "f::Int\nf=1");
        TEXTS.faultOfModule(3, AT + "not::Int");
        TEXTS.faultOfModule(3, "(" + AT + "+)::Int");
        TEXTS.faultOfModule(3, AT + "failed::Int");
        TEXTS.faultOfModule(3, AT + "label::Int");
        TEXTS.goodModule("f::Int\nf'::Int\n(%)::Int\n(%%)::Int");
    }

    private static void rules() {
        TEXTS.faultOfModule(3, AT + "f=1");
        TEXTS.faultOfModule(3, AT + "f x=1");
        TEXTS.faultOfModule(3, "x " + AT + "% y=1");
        TEXTS.faultOfModule(3, "x " + AT + "`f` y=1");
        TEXTS.faultOfModule(3, "(1:_)" + AT + "`f` y=1");
        TEXTS.goodModule("f=1\nf::Int");
        TEXTS.goodModule("f=1\ng=f\ng::Int\nf::Int");
        // Of what the prelude declares a signature is a fault, and counts as none.
        TEXTS.faultOfModule(3, AT + "not x=x");
        TEXTS.faultOfModule(3, AT + "not x=x\nnot::Bool->Bool");
        TEXTS.faultOfModule(3, AT + "not::Bool->Bool\nnot x=x");
        TEXTS.faultOfModule(3, "x" + AT + "+y=1");
        TEXTS.faultOfModule(3, AT + "failed=1");
        String signatures = "f::Int\ng::Int\n";
        TEXTS.goodModule(signatures + "f=1\nf=2\ng=1\ng=2");
        TEXTS.faultOfModule(3, signatures + "f=1\ng=1\n" + AT + "f=2");
        TEXTS.faultOfModule(3, signatures + "f=1\ng=1\n" + AT + "f=2\ng=2");
        TEXTS.faultOfModule(3, "(%)::Int->Int->Int\nf::Int\nx%y=1\nf=1\nx" + AT + "%y=1");
        TEXTS.faultOfModule(3, "f::Int->Int->Int\ng::Int\nf x y=1\ng=1\nx" + AT + "`f`y=1");
        TEXTS.goodModule("f::Int->Int->Int\nf x y=1\nx`f`y=2");
        // Other Decls may stand between.
        TEXTS.goodModule("f::Int\nf=1\ng::Int\nf=2\ndata T=A\nf=3\ninfix 1 `h`\nf=4\nh::Int\ng=1");
        TEXTS.faultOfModule(3, "f::Int\nf=1\n" + AT + "g=1\nf=2");
    }

    private static void infixes() {
        String signatures = "(%)::Int->Int->Int\nf::Int->Int->Int\n";
        TEXTS.goodModule(signatures + "infix 1 %\ninfixl 2 `f`");
        TEXTS.goodModule("infix 1 %,`f`\n" + signatures);
        TEXTS.faultOfModule(3, signatures + "infix 1 %," + AT + "%");
        TEXTS.faultOfModule(3, signatures + "infix 1 `f`," + AT + "`f`");
        TEXTS.faultOfModule(3, signatures + "infix 1 %\ninfixr 2 `f`," + AT + "%");
        TEXTS.faultOfModule(3, signatures + "infix 1 " + AT + "+");
        TEXTS.faultOfModule(3, signatures + "infix 1 " + AT + "`div`");
        TEXTS.faultOfModule(3, signatures + "infix 1 " + AT + ":");
        TEXTS.faultOfModule(3, signatures + "infix 1 %," + AT + ":");
        // Also of what the prelude has no infix for: it has no signature in this text.
        TEXTS.faultOfModule(3, signatures + "infix 1 " + AT + "`not`");
        TEXTS.faultOfModule(3, signatures + "infix 1 " + AT + "%%");
        TEXTS.faultOfModule(3, signatures + "infix 1 " + AT + "`g`");
    }

    private static void toldTwice() {
        String two = "f::a->a->Int\n";
        TEXTS.goodModule(two + "f x y=1");
        TEXTS.goodModule(two + "f _ _=1");
        TEXTS.faultOfModule(3, two + "f x " + AT + "x=1");
        TEXTS.faultOfModule(3, two + "x`f`" + AT + "x=1");
        TEXTS.faultOfModule(3, two + "f x@" + AT + "x y=1");
        TEXTS.faultOfModule(3, two + "f x@(y,_)(z,[" + AT + "y])=1");
        TEXTS.goodModule(two + "f f y=1");
        TEXTS.faultOfModule(3, two + "f f " + AT + "f=1");
        TEXTS.faultOfQuery(3, "\\x " + AT + "x->1");
        TEXTS.goodQuery("\\_ _->1");
        TEXTS.goodQuery("\\x-> \\x->x");
        TEXTS.faultOfQuery(3, "case[1]of{[x," + AT + "x]->1}");
        TEXTS.goodQuery("case[1]of{[x,y]->1;[x]->1;x:y->1}");
        TEXTS.faultOfQuery(3, "let{x=1;" + AT + "x=2}in x");
        TEXTS.faultOfQuery(3, "let{x=1;y," + AT + "x free}in x");
        TEXTS.faultOfQuery(3, "let{x," + AT + "x free}in 1");
        TEXTS.faultOfQuery(3, "let{x free;" + AT + "x=1}in 1");
        TEXTS.faultOfQuery(3, "1 where{x free;y=1;" + AT + "x free}");
        // Each Lhs, Pat, \ and Block has a scope of its own; inner ones hide outer ones, and functions.
        TEXTS.goodModule("f::Int->Int\nf x=x where{x=2}");
        TEXTS.all("let{x=1}in let{x=2}in x", "2; end");
        TEXTS.all("(let{x=1}in(let{x=2}in x)+x)", "3; end");
        TEXTS.all("(\\x->(\\x->x)2+x)1", "3; end");
        TEXTS.all("case 1 of{x->case 2 of{x->x}}", "2; end");
        TEXTS.all("let{not=7}in not", "7; end");
        TEXTS.all("(\\div->7`div`2)(+)", "9; end");
        TEXTS.all("let{x=1}in let{x=x+1}in x", "2; end");
        TEXTS.all("x where{x=1;y=let{x=2}in x}", "1; end");
        TEXTS.all("case(1,2)of{(x,y)->let{x=y;y=5}in x+y}", "7; end");
    }

    private static void unknown() {
        TEXTS.faultOfQuery(3, AT + "x");
        TEXTS.faultOfQuery(3, "1+" + AT + "x+y");
        TEXTS.faultOfQuery(3, AT + "X");
        TEXTS.faultOfQuery(3, AT + "Int");
        TEXTS.faultOfQuery(3, "1 " + AT + "% 2");
        TEXTS.faultOfQuery(3, "1" + AT + "`x`2");
        TEXTS.faultOfQuery(3, "(" + AT + "%)");
        TEXTS.faultOfQuery(3, "(" + AT + "`x`)");
        TEXTS.faultOfQuery(3, "(1" + AT + "%)");
        TEXTS.faultOfQuery(3, "(" + AT + "%1)");
        TEXTS.goodQuery("(1:[])");
        TEXTS.goodQuery("(:)");
        TEXTS.goodQuery("(\\x->1`x`2)(+)");
        TEXTS.faultOfQuery(3, "case 1 of{" + AT + "X->1}");
        TEXTS.faultOfQuery(3, "case 1 of{" + AT + "Int->1}");
        TEXTS.faultOfQuery(3, "case 1 of{(1,[" + AT + "Bool])->1}");
        TEXTS.faultOfModule(3, "f::Int->Int\nf " + AT + "X=1");
        TEXTS.goodModule("f::T->Int\nf A=1\ndata T=A");
    }

    private static void behindSet() {
        TEXTS.goodQuery("set not True");
        TEXTS.faultOfQuery(3, "set " + AT + "x");
        TEXTS.faultOfQuery(3, "let{x=1}in set " + AT + "x");
        TEXTS.faultOfQuery(3, "\\x->set " + AT + "x");
        // A NAME that hides a function does not count there.
        TEXTS.all("let{not=1}in set not True", "[False]; end");
        TEXTS.all("(\\failed->set failed)1==[()]", "False; end");
    }

    private static void known() {
        TEXTS.faultOfQuery(3, "let{x=" + AT + "x}in 1");
        TEXTS.faultOfQuery(3, "let{x=" + AT + "y;y=1}in 1");
        TEXTS.goodQuery("let{y=1;x=y}in 1");
        TEXTS.faultOfQuery(3, "let{x=" + AT + "y;y free}in 1");
        TEXTS.goodQuery("let{y free;x=y}in 1");
        TEXTS.faultOfQuery(3, "(let{x=1}in x)+" + AT + "x");
        TEXTS.faultOfQuery(3, "(\\x->x)" + AT + "x");
        TEXTS.faultOfQuery(3, "case " + AT + "x of{x->x}");
        TEXTS.faultOfQuery(3, "case 1 of{x->x;y->" + AT + "x}");
        TEXTS.goodQuery("x+1 where{x=1}");
        TEXTS.faultOfModule(3, "f::Int->Int\nf x=y where{y=" + AT + "z;z=1}");
        TEXTS.goodModule("f::Int->Int\nf x=y where{z=x;y=z}");
        TEXTS.goodModule("f::Int->Int\nf x|x==y=y|True=x where{y=1}");
        TEXTS.faultOfModule(3, "f::Int->Int\nf x=x\nf y=" + AT + "x");
        TEXTS.faultOfModule(3, "f::Int->Int\nf x=y where{y=1}\nf x=" + AT + "y");
    }

    /** Names that begin alike, or have the same letters, are others; signs of them, too. */
    private static void alike() {
        StringBuilder module = new StringBuilder();
        StringBuilder query = new StringBuilder("[");
        StringBuilder due = new StringBuilder("[");
        for (int i = 1; i <= 55; i++) {
            String name = "a".repeat(i);
            module.append(name).append("::Int\n").append(name).append('=').append(i).append('\n');
            query.append(i > 1 ? "," : "").append(name);
            due.append(i > 1 ? "," : "").append(i);
        }
        CHECKS.same("a, aa, aaa ..", Tongue.with(module.toString()).all(query.append("]").toString()), due.append("]; end").toString());
        Tongue t = Tongue.with("ab::Int\nab=1\nba::Int\nba=2\naB::Int\naB=3\na'::Int\na'=4\na_::Int\na_=5\na0::Int\na0=6\n_a::Int\n_a=7\na''::Int\na''=8\n"
                + "(*%)::Int->Int->Int\nx*%y=x\n(%*)::Int->Int->Int\nx%*y=y\n(%%)::Int->Int->Int\nx%%y=9\n(%)::Int->Int->Int\nx%y=10\n"
                + "data AB=AB|BA|Ab|A|A'\nf::AB->Int\nf BA=11\nf A'=12\nf A=13\nf Ab=14\nf AB=15\n");
        CHECKS.same("letters", t.all("[ab,ba,aB,a',a_,a0,_a,a'']"), "[1,2,3,4,5,6,7,8]; end");
        CHECKS.same("signs", t.all("[1*%2,1%*2,1%%2,1%2]"), "[1,2,9,10]; end");
        CHECKS.same("BIGS", t.all("[f A,f Ab,f AB,f BA,f A']"), "[13,14,15,11,12]; end");
        CHECKS.same("BIGS as they are told", t.all("[A,Ab,AB,BA,A']"), "[A,Ab,AB,BA,A']; end");
    }

    /** The first kind that there is counts, and of it the least place. */
    private static void firstKind() {
        TEXTS.faultOfQuery(1, ")+x==1==1+" + AT + "\t");
        TEXTS.faultOfQuery(2, "set not+x==1==" + AT + ")");
        TEXTS.faultOfQuery(3, "(1==2==3)+set not+" + AT + "x+y");
        TEXTS.faultOfQuery(4, "(set not,not 1,1==2" + AT + "==3==4)");
        TEXTS.faultOfQuery(5, "(not 1," + AT + "set not,set not)");
        TEXTS.faultOfQuery(6, "(not " + AT + "1,not 2)");
        TEXTS.faultOfModule(3, "f::" + AT + "T\ng=1");
        TEXTS.faultOfModule(3, AT + "g=1\nf::T");
        TEXTS.faultOfModule(3, "f::Int\nf=1==2==3\ng::Int->Int\ng=1\ng x y=2\nh::" + AT + "T");
        TEXTS.faultOfModule(4, "f::Int\nf x=1\ng::Int\ng=1==2" + AT + "==3");
        TEXTS.faultOfModule(5, "f::Int\nf=True\ng::Int\n" + AT + "g x=1");
        TEXTS.faultOfModule(5, "data T a=A\nf::Int\n" + AT + "f x=1\ng::T");
    }

    private static final String SIDES = "nlr";

    /** Three operators of each strength, whose values tell how they were put together. */
    private static String shapes() {
        StringBuilder text = new StringBuilder("data E=A|B|C|D|O Int E E\n");
        for (int i = 0; i < 30; i++) {
            String name = "" + SIDES.charAt(i % 3) + i / 3;
            text.append("infix").append(i % 3 == 0 ? "" : SIDES.substring(i % 3, i % 3 + 1)).append(' ').append(i / 3).append("`").append(name).append("`\n");
            text.append(name).append("::E->E->E\n").append("x`").append(name).append("`y=O ").append(i).append(" x y\n");
        }
        return text.toString();
    }

    private static String op(int i) {
        return "`" + SIDES.charAt(i % 3) + i / 3 + "`";
    }

    /** All pairs of two strengths and sides: the stronger one first; alike ones by their side, or a fault. */
    private static void strengthsOfPairs() {
        String shapes = shapes();
        Tongue t = Tongue.with(shapes);
        for (int first = 0; first < 30; first++) {
            t = Tongue.with(shapes);
            for (int second = 0; second < 30; second++) {
                boolean alike = first / 3 == second / 3;
                String text = "A" + op(first) + "B" + op(second) + "C";
                if (alike && (first % 3 != second % 3 || first % 3 == 0)) {
                    CHECKS.same(text, t.ask(0, 1, text), -1 - 6);
                    CHECKS.same(text, t.tongue.fault(), 4);
                    continue;
                }
                boolean left = alike ? first % 3 == 1 : first / 3 > second / 3;
                CHECKS.same(text, t.first(text), left ? "O " + second + " (O " + first + " A B) C" : "O " + first + " A (O " + second + " B C)");
            }
        }
    }

    private static void strengthsOfRows() {
        TEXTS.behind(shapes());
        String[] rows = {
            "A`l3`B`l5`C`l3`D=O 10 (O 10 A (O 16 B C)) D", "A`r3`B`r5`C`r3`D=O 11 A (O 11 (O 17 B C) D)",
            "A`l3`B`l2`C`l3`D=O 7 (O 10 A B) (O 10 C D)", "A`n3`B`l2`C`n3`D=O 7 (O 9 A B) (O 9 C D)",
            "A`l1`B`l2`C`l3`D=O 4 A (O 7 B (O 10 C D))", "A`l3`B`l2`C`l1`D=O 4 (O 7 (O 10 A B) C) D",
            "A`n1`B`n2`C`n3`D=O 3 A (O 6 B (O 9 C D))", "A`n3`B`n2`C`n1`D=O 3 (O 6 (O 9 A B) C) D",
            "A`l0`B`r9`C`n5`D=O 1 A (O 15 (O 29 B C) D)", "A`n2`B`n9`C`n1`D=O 3 (O 6 A (O 27 B C)) D"};
        for (String row : rows) {
            TEXTS.all(row.split("=")[0], row.split("=")[1] + "; end");
        }
        // Of two of one strength, between which there are only stronger ones.
        TEXTS.faultOfQuery(4, "A`n3`B`l5`C" + AT + "`n3`D");
        TEXTS.faultOfQuery(4, "A`l3`B`l5`C" + AT + "`r3`D");
        TEXTS.faultOfQuery(4, "A`n3`B`l4`C`r9`D" + AT + "`l3`D");
        TEXTS.goodQuery("A`n3`B`l5`C`n2`D`n3`A");
        TEXTS.faultOfQuery(4, "A`n3`B" + AT + "`n3`C`n3`D");
        TEXTS.faultOfQuery(4, "A`l3`B`l3`C" + AT + "`r3`D`n3`A");
        TEXTS.faultOfQuery(4, "A`n2`B`n3`C" + AT + "`n3`D`n2`A");
        TEXTS.faultOfQuery(4, "A`n2`B`n3`C" + AT + "`n2`D`n3`A");
        // Brackets and Tails have Rows of their own.
        TEXTS.all("A`n3`(B`n3`C)", "O 9 A (O 9 B C); end");
        TEXTS.all("(A`n3`B)`n3`C", "O 9 (O 9 A B) C; end");
        TEXTS.all("A`n3`if True then B`n3`C else D", "O 9 A (O 9 B C); end");
        TEXTS.all("A`l9`let{x=B}in x`l0`C", "O 28 A (O 1 B C); end");
        TEXTS.behind("");
    }

    private static void otherStrengths() {
        String op = "data E=A|B|O E E|P E E\n(%)::E->E->E\nx%y=O x y\nf::E->E->E\nf x y=P x y\n";
        // Without an infix they have the strength 9, left.
        TEXTS.behind(op);
        TEXTS.all("A%B%A", "O (O A B) A; end");
        TEXTS.all("A`f`B%A`f`B", "P (O (P A B) A) B; end");
        TEXTS.faultOfQuery(4, "(\\x->x)%(\\x->x)" + AT + ".(\\x->x)");
        TEXTS.behind(op + "infixl 8%\n");
        TEXTS.all("A%B`f`A", "O A (P B A); end");
        // The name has its strength, whatever it means there.
        TEXTS.behind(op + "infixr 3`f`\n");
        TEXTS.all("A`f`B`f`A", "P A (P B A); end");
        TEXTS.all("let{f=(%)}in A`f`B`f`A", "O A (O B A); end");
        TEXTS.behind(op);
        TEXTS.all("let{div=(%)}in A`div`B`div`A", "O (O A B) A; end");
        TEXTS.faultOfQuery(4, "(\\mod x->A`mod`B==A" + AT + "==B)(%)");
        // : is 5, right.
        TEXTS.all("1:2:[]", "[1,2]; end");
        TEXTS.all("1:2+3:[]", "[1,5]; end");
        TEXTS.all("1:[]++[2]", "[1,2]; end");
        TEXTS.all("1:[]==[1]", "True; end");
        TEXTS.behind("infixl 5%\n(%)::[a]->[a]->[a]\nx%y=x");
        TEXTS.faultOfQuery(4, "1:[]" + AT + "%[]");
        TEXTS.faultOfQuery(4, "[1]%2" + AT + ":[]");
        TEXTS.behind("infixr 5%\n(%)::[a]->[a]->[a]\nx%y=y");
        TEXTS.all("1:[]%[2]", "[1,2]; end");
        TEXTS.behind("");
        String[] prelude = {"2+3*4=14", "2*3+4=10", "7-2-1=4", "7`div`2*2=6", "2-1==1=True", "1==1&&2==2=True", "False&&True||True=True", "True||True&&False=True",
            "True||False&True=True", "False&True||True=False", "not$True&False=True", "(+1).(*2)$3=7", "[1]++[2]++[3]=[1,2,3]", "1<2&&2>=2=True", "True&>1+1=2"};
        for (String row : prelude) {
            int end = row.lastIndexOf('=');
            TEXTS.all(row.substring(0, end), row.substring(end + 1) + "; end");
        }
        for (String op2 : new String[] {"==", "/=", "<", "<=", ">", ">=", "=:="}) {
            TEXTS.faultOfQuery(4, "1" + op2 + "2" + AT + "==3");
        }
        TEXTS.faultOfQuery(4, "1:1==2" + AT + "=:=3:2");
    }
}
