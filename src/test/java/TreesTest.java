/** Part II and promise 10: TREES, what they COVER, which functions are SINGLE, and what fact() tells. */
public final class TreesTest {
    private static final Checks CHECKS = new Checks();

    public static void main(String[] args) {
        leaves();
        branches();
        runs();
        declarationsBetween();
        childrenInOrder();
        below();
        tuples();
        farPositions();
        covers();
        single();
        rings();
        prelude();
        CHECKS.end();
    }

    private static final String DATA = "data T=A|B|C Int T\ndata D=D" + " Int".repeat(16) + "\n";

    /** The TREE of f by its rules, each told without the Rhs; a | behind one gives it a guard. */
    private static void tree(String type, String rules, String due) {
        StringBuilder text = new StringBuilder(DATA).append("f::").append(type).append("->Int\n");
        for (String rule : rules.split(";")) {
            text.append("f ").append(rule.endsWith("|") ? rule + "True" : rule).append(" =1\n");
        }
        Tongue t = Tongue.with(text.toString());
        String tree = t.show(2, 28);
        CHECKS.same("tree of " + rules, tree, due.split(" ")[0]);
        CHECKS.same("rules of " + rules, t.tongue.fact(28, 1), rules.split(";").length);
        CHECKS.same("BRANCHES of " + rules, t.tongue.fact(28, 2), tree.chars().filter(c -> c == '{').count());
        CHECKS.same("ORS of " + rules, t.tongue.fact(28, 3), tree.chars().filter(c -> c == '[').count() - (tree.length() - tree.replace("[]", "").length()) / 2);
        CHECKS.same("COVERS " + rules, t.tongue.fact(28, 4), due.endsWith(" covers") ? 1 : 0);
        CHECKS.same("SINGLE " + rules, t.tongue.fact(28, 5), t.tongue.fact(28, 3) == 0 ? 1 : 0);
    }

    private static void leaves() {
        tree("Int", "x", "#1 covers");
        tree("Int", "_", "#1 covers");
        tree("Int", "x;y", "[#1,#2] covers");
        tree("Int", "x;y;_", "[#1,#2,#3] covers");
        tree("Int->Int", "x y;_ _;u@v w", "[#1,#2,#3] covers");
    }

    private static void branches() {
        tree("Int->Int", "1 _", "1{1:#1}");
        tree("Int->Int", "_ 1", "2{1:#1}");
        tree("Int->Int", "1 1", "1{1:2{1:#1}}");
        tree("Int->Int", "x@1 _", "1{1:#1}");
        tree("Int->Int", "_ x@y@z@1", "2{1:#1}");
        tree("Int->Int", "1 1;2 _", "1{1:2{1:#1},2:#2}");
        tree("Int->Int", "_ 1;1 2", "2{1:#1,2:1{1:#2}}");
        tree("Int->Int", "1 2;1 3;2 3", "1{1:2{2:#1,3:#2},2:2{3:#3}}");
        // The first of those that all need.
        tree("Int->Int->Int", "_ 1 1;_ 1 2", "2{1:3{1:#1,2:#2}}");
        tree("Int->Int->Int", "1 _ 1;_ 1 2", "3{1:1{1:#1},2:2{1:#2}}");
    }

    private static void runs() {
        tree("Int->Int", "1 _;_ 1", "[1{1:#1},2{1:#2}]");
        tree("Int->Int", "_ 1;1 _", "[2{1:#1},1{1:#2}]");
        tree("Int->Int", "_ _;_ 1", "[#1,2{1:#2}] covers");
        tree("Int->Int", "_ 1;_ 2;1 _", "[2{1:#1,2:#2},1{1:#3}]");
        tree("Int->Int", "1 _;2 _;_ 1;3 _", "[1{1:#1,2:#2},2{1:#3},1{3:#4}]");
        tree("Int->Int", "_ _;1 _;_ _;_ _", "[#1,1{1:#2},[#3,#4]] covers");
        tree("Int->Int", "1 _;1 _;_ 2;_ 2", "[1{1:[#1,#2]},2{2:[#3,#4]}]");
        // Of a RUN the TREE is made with the same OPEN ones.
        tree("Int->Int->Int", "_ 1 _;_ _ 1;1 _ _", "[[2{1:#1},3{1:#2}],1{1:#3}]");
        tree("Int->Int->Int", "1 1 _;2 _ 1;_ 3 3", "[1{1:2{1:#1},2:3{1:#2}},2{3:3{3:#3}}]");
    }

    /** The rules of a function are counted alone, whatever stands between them. */
    private static void declarationsBetween() {
        String text = "f::Int->Int\nf 1=1\ng::Int->Int->Int\nf 2=2\ndata E=F|G\ninfix 1 `g`\nf 3=3\nh::E->Int\nf 4=f 5\n"
                + "infixl 2 %\n(%)::E->E->Int\ng 1 2=label[]&>3\ndata H=I\n_`g`3=4\nF%_=1\ni::H\n_%G=2\n";
        Tongue t = Tongue.with(text);
        CHECKS.same("TREE of f", t.show(2, 28), "1{1:#1,2:#2,3:#3,4:#4}");
        CHECKS.same("rules of f", t.tongue.fact(28, 1), 4);
        CHECKS.same("f is SINGLE", t.tongue.fact(28, 5), 1);
        CHECKS.same("TREE of g", t.show(2, 29), "2{2:1{1:#1},3:#2}");
        CHECKS.same("rules of g", t.tongue.fact(29, 1), 2);
        CHECKS.same("g is not SINGLE", t.tongue.fact(29, 5), 0);
        CHECKS.same("TREE of %", t.show(2, 31), "[1{F:#1},2{G:#2}]");
        CHECKS.same("no TREE", t.show(2, 30) + t.show(2, 32), "");
        CHECKS.same("VALUES", t.all("(f x,x)where{x free}"), "(1,1) x=1; (2,2) x=2; (3,3) x=3; end");
        CHECKS.same("VALUES", t.all("(F%G,7`g`3)"), "(1,4); (2,4); end");
    }

    private static void childrenInOrder() {
        tree("T", "B;A", "1{A:#2,B:#1}");
        tree("T", "(C _ _);B;A;B", "1{A:#3,B:[#2,#4],C:#1} covers");
        tree("[a]", "(x:y);[]", "1{[]:#2,::#1} covers");
        tree("Bool", "True;False", "1{False:#2,True:#1} covers");
        tree("Int", "7;3;7;0;3", "1{7:[#1,#3],3:[#2,#5],0:#4}");
        tree("Int", "000000012;12", "1{12:[#1,#2]}");
        tree("Int", "999999999;0", "1{999999999:#1,0:#2}");
        tree("()", "()", "1{():#1} covers");
        tree("(a,b)", "(x,y)", "1{(,):#1} covers");
        tree("(a,b,c)", "(x,_,_);(_,_,_)", "1{(,,):[#1,#2]} covers");
    }

    private static void below() {
        tree("T->Int", "(C 1 A) 2", "1{C:1.1{1:1.2{A:2{2:#1}}}}");
        tree("T->Int", "(C _ A) 1;(C _ B) 1", "1{C:1.2{A:2{1:#1},B:2{1:#2}}}");
        tree("T->Int", "(C 1 _) _;(C _ A) _", "1{C:[1.1{1:#1},1.2{A:#2}]}");
        tree("T->Int", "(C _ _) 1;(C 1 _) 2", "1{C:2{1:#1,2:1.1{1:#2}}}");
        tree("T->Int", "(C _ _) 1;(C 1 _) _", "1{C:[2{1:#1},1.1{1:#2}]}");
        tree("T->T", "A B;(C _ (C _ A)) A;(C 1 B) _", "1{A:2{B:#1},C:1.2{B:1.1{1:#3},C:1.2.2{A:2{A:#2}}}}");
        tree("(Int,(Int,Int))", "(_,(1,2))", "1{(,):1.2{(,):1.2.1{1:1.2.2{2:#1}}}}");
        tree("[Int]", "[];[1];[1,2];(1:2:_)", "1{[]:#1,::1.1{1:1.2{[]:#2,::1.2.1{2:[1.2.2{[]:#3},#4]}}}}");
        tree("[Int]", "x@(1:y@[2])", "1{::1.1{1:1.2{::1.2.1{2:1.2.2{[]:#1}}}}}");
    }

    /** Positions of more than one digit. */
    private static void tuples() {
        tree("()", "()", "1{():#1} covers");
        tree("(Int,Int)", "(1,_);(_,2)", "1{(,):[1.1{1:#1},1.2{2:#2}]}");
        tree("(Int,Int,Int)", "(_,_,1);(_,2,_);(3,_,_)", "1{(,,):[[1.3{1:#1},1.2{2:#2}],1.1{3:#3}]}");
        tree("(Int,Int,Int)", "(_,2,1);(_,2,3)", "1{(,,):1.2{2:1.3{1:#1,3:#2}}}");
        tree("(Int,(Int,Int,Int),Int)", "(_,(1,2,3),4)", "1{(,,):1.2{(,,):1.2.1{1:1.2.2{2:1.2.3{3:1.3{4:#1}}}}}}");
        tree("(Int,Int,Int)", "(_,_,_);x", "[1{(,,):#1},#2] covers");
        Tongue t = Tongue.with("f::(Int,Int,Int)->[Int]\nf(x,2,z)=[x,z]\nf(1,y,z)=[z,y,0]\n");
        CHECKS.same("VALUES", t.all("f(1,2,3)"), "[1,3]; [3,2,0]; end");
        CHECKS.same("VALUES of a free one", t.all("(f x,x)where{x free}"), "([_1,_2],(_1,2,_2)) x=(_1,2,_2); ([_1,_2,0],(1,_2,_1)) x=(1,_2,_1); end");
    }

    private static void farPositions() {
        tree("Int->".repeat(15) + "Int", "_ ".repeat(15) + "1", "16{1:#1}");
        tree("Int->".repeat(15) + "Int", "_ ".repeat(9) + "1 1" + " _".repeat(5), "10{1:11{1:#1}}");
        tree("D", "(D" + " _".repeat(15) + " 1)", "1{D:1.16{1:#1}}");
        tree("D", "(D" + " _".repeat(9) + " 1" + " _".repeat(5) + " 3);(D" + " 4".repeat(16) + ")",
                "1{D:1.10{1:1.16{3:#1},4:1.1{4:1.2{4:1.3{4:1.4{4:1.5{4:1.6{4:1.7{4:1.8{4:1.9{4:1.11{4:1.12{4:1.13{4:1.14{4:1.15{4:1.16{4:#2}" + "}".repeat(16));
    }

    private static void covers() {
        tree("Int", "x|", "#1");
        tree("Int", "x|;y", "[#1,#2] covers");
        tree("Int", "x|;y|", "[#1,#2]");
        tree("T", "A;B;(C _ _)", "1{A:#1,B:#2,C:#3} covers");
        tree("T", "A;B", "1{A:#1,B:#2}");
        tree("T", "A;B;(C 1 _)", "1{A:#1,B:#2,C:1.1{1:#3}}");
        tree("T", "A|;B;(C _ _)", "1{A:#1,B:#2,C:#3}");
        tree("T", "A|;B;(C _ _);A", "1{A:[#1,#4],B:#2,C:#3} covers");
        tree("T", "A;_", "[1{A:#1},#2] covers");
        tree("T", "A;_|", "[1{A:#1},#2]");
        tree("Int", "1;_", "[1{1:#1},#2] covers");
        tree("Bool->Bool", "True _;False True;False False", "1{False:2{False:#3,True:#2},True:#1} covers");
        tree("Bool->Bool", "True _;False True", "1{False:2{True:#2},True:#1}");
        tree("Bool->Bool", "True True;_ False;False _", "[1{True:2{True:#1}},2{False:#2},1{False:#3}]");
        tree("((),())", "((),())", "1{(,):1.1{():1.2{():#1}}} covers");
        tree("[a]", "[]", "1{[]:#1}");
        tree("[a]", "(_:_)", "1{::#1}");
        tree("[a]", "[];[_];(_:_:_)", "1{[]:#1,::1.2{[]:#2,::#3}} covers");
    }

    private static void isSingle(String module, String due) {
        Tongue t = Tongue.with(module);
        StringBuilder got = new StringBuilder();
        for (int f = 28; f < t.tongue.count(0); f++) {
            got.append(t.tongue.fact(f, 5));
        }
        CHECKS.same("SINGLE " + module, got.toString(), due);
    }

    private static void single() {
        isSingle("f::Int->Int\nf x=x", "1");
        isSingle("f::Int->Int", "1");
        isSingle("f::Int->Int\nf x|x==1=1|x==2=2", "1");
        isSingle("f::Int->Int\nf 1=1\nf 2=2", "1");
        isSingle("f::Int->Int\nf 1=1\nf 1=2", "0");
        isSingle("f::Int->Int\nf x=case x of{y->1;z->2}", "1");
        isSingle("f::Int->Int\nf x=fcase x of{y->1}", "0");
        isSingle("f::Int->Int\nf x=1+(fcase x of{1->1})", "0");
        isSingle("f::Int->Int\nf x=1 where{y free}", "0");
        isSingle("f::Int->Int\nf x=let{y free}in 1", "0");
        isSingle("f::Int->Int\nf x=(\\z->let{y free}in 1)x", "0");
        isSingle("f::Int->Int\nf x=1 where{y=x}", "1");
        isSingle("f::Int->Int\nf x=x?x", "0");
        isSingle("f::Int->Int->Int\nf=(?)", "0");
        isSingle("f::Int->Int\nf x=(x?)1", "0");
        isSingle("f::Int->Int\nf x=(?x)1", "0");
        isSingle("f::Bool\nf=label[]", "0");
        isSingle("f::[Bool]\nf=set label[]", "0");
        isSingle("f::[Int]->Bool\nf=label", "0");
        isSingle("f::Bool\nf=differ[]&span 1 2 3&1=:=2", "1");
        isSingle("f::Int\nf=failed", "1");
        isSingle("f::Int\nf=1\nf=2\ng::[Int]\ng=set f\nh::[[Int]]\nh=[g]\ni::Int\ni=div 1 2", "0001");
        isSingle("g::[Int]\nh::[[Int]]\nf::Int\nh=[g]\ng=set f\nf=1\nf=2", "000");
        isSingle("f::Int\nf=1\nf=2\ng::Int->Int\ng f=f\nh::Int\nh=let{f=1}in f\ni::Int\ni=let{f=f}in f", "0110");
        isSingle("f::Int\nf=1\nf=2\ng::Int->Int\ng x|f==1=2|True=3\nh::Int->Int\nh x|x==1=f", "000");
        isSingle("f::Int\nf=1\nf=2\ng::Int->Int\ng 1=1\ng 2=f\nh::Int->Int\nh 1=2", "001");
    }

    private static void rings() {
        isSingle("f::Int\nf=f", "1");
        isSingle("f::Int\nf=g\ng::Int\ng=f", "11");
        isSingle("f::Int\nf=g\ng::Int\ng=h\nh::Int\nh=f", "111");
        isSingle("f::Int\nf=g\ng::Int\ng=h\nh::Int\nh=f?1", "000");
        isSingle("f::Int\nf=g\ng::Int\ng=f\nh::Int\nh=f?1", "110");
        isSingle("a::Int\na=b\nb::Int\nb=c\nc::Int\nc=d\nd::Int\nd=e\ne::Int\ne=1\ne=2\nz::Int\nz=1", "000001");
    }

    /** Of each function of the prelude: its name, what it TAKES, rules, BRANCHES, ORS, COVERS, SINGLE, its TREE. */
    private static final String[] PRELUDE = {
        "+ 200001", "- 200001", "* 200001", "div 200001", "mod 200001", "== 200001", "/= 200001", "< 200001", "<= 200001", "> 200001", ">= 200001",
        "=:= 200001", "& 200001", "span 300001", "atMost 300001", "equalTo 300001", "differ 100001", "label 100000",
        "? 220110[#1,#2]", "&& 221011" + "1{False:#2,True:#1}", "|| 221011" + "1{False:#2,True:#1}", "not 121011" + "1{False:#2,True:#1}",
        "&> 211001" + "1{True:#1}", "$ 210011#1", ". 210011#1", "++ 221011" + "1{[]:#1,::#2}", "map 221011" + "2{[]:#1,::#2}", "failed 000001"};

    private static void prelude() {
        for (String module : new String[] {"", "f::Int\nf=1"}) {
            Tongue t = Tongue.with(module);
            for (int f = 0; f < 28; f++) {
                StringBuilder got = new StringBuilder(t.show(0, f)).append(' ');
                for (int what = 0; what <= 5; what++) {
                    got.append(t.tongue.fact(f, what));
                }
                CHECKS.same("function " + f, got + t.show(2, f), PRELUDE[f]);
            }
            CHECKS.same("functions", t.tongue.count(0), module.isEmpty() ? 28 : 29);
        }
    }
}
