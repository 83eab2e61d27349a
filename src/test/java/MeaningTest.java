/** Part III without SPANS and CAPSULES: what Exprs come to, and the LABOUR, STEPS, DECISIONS and BINDINGS of that. */
public final class MeaningTest {
    private static final String SIGNS = "data N=Z|S N\ndata P=P Int Int|Q\n";
    private static final Checks CHECKS = new Checks();
    private static final Texts TEXTS = new Texts(CHECKS);

    public static void main(String[] args) {
        heads();
        applied();
        lambdas();
        shared();
        rules();
        guards();
        choices();
        cases();
        decisions();
        narrowed();
        numbers();
        numbersGoRound();
        divided();
        equal();
        unequal();
        equations();
        equationsOfVars();
        both();
        bothAnew();
        kept();
        waits();
        CHECKS.end();
    }

    /** A Query, its first VALUE, LABOUR, STEPS, DECISIONS and BINDINGS. */
    private static void cost(String query, String due) {
        TEXTS.cost(query, due);
    }

    /** A Query whose only PLACE is no VALUE. */
    private static void none(String query, String place) {
        CHECKS.same("places of " + query, Tongue.with(SIGNS).first(query), "1 places, 1 " + place);
    }

    private static void heads() {
        TEXTS.behind(SIGNS);
        cost("1", "1 for 1 0 0 0");
        cost("()", "() for 1 0 0 0");
        cost("[]", "[] for 1 0 0 0");
        cost("[1,2]", "[1,2] for 5 0 0 0");
        cost("(1,2)", "(1,2) for 3 0 0 0");
        cost("(1,2,3)", "(1,2,3) for 4 0 0 0");
        cost("S(S Z)", "S (S Z) for 3 0 0 0");
        cost("1:[]", "[1] for 3 0 0 0");
        cost("x where{x free}", "_1 for 2 0 0 0");
        cost("(x,y,x)where{x,y free}", "(_1,_2,_1) for 6 0 0 0");
        cost("1 where{x=failed;y=1}", "1 for 1 0 0 0");
        // PARTS: with fewer NODES than they take. What is in them is not come to.
        for (String part : new String[] {"(+)", "(1+)", "(+1)", "S", "P failed", "div failed", "\\x->failed", "(.not)", "map", "label"}) {
            cost(part, "<fun> for 1 0 0 0");
        }
        cost("(S,[(+)])", "(<fun>,[<fun>]) for 5 0 0 0");
        none("failed", "failed");
        none("(1,failed)", "failed");
        none("[1,2,failed]", "failed");
    }

    private static void applied() {
        TEXTS.behind(SIGNS + "i::a->a\ni x=x\nk::a->b->a\nk x _=x\no::Int->Int\nc::Int->Int\nc=i\n");
        cost("i 1", "1 for 4 1 0 0");
        cost("i(i 1)", "1 for 7 2 0 0");
        // What is too many is APPLIED.
        cost("i i 1", "1 for 7 2 0 0");
        cost("i i i i 1", "1 for 13 4 0 0");
        cost("k i 7 1", "1 for 7 2 0 0");
        cost("k 1 failed", "1 for 4 1 0 0");
        cost("k 1", "<fun> for 1 0 0 0");
        cost("(k 1)failed", "1 for 4 1 0 0");
        cost("i k 1 failed", "1 for 7 2 0 0");
        cost("(i k)1 failed", "1 for 7 2 0 0");
        cost("P 1 2", "P 1 2 for 3 0 0 0");
        cost("(P 1)2", "P 1 2 for 3 0 0 0");
        cost("i P 1 2", "P 1 2 for 6 1 0 0");
        cost("(`k`)1 2", "1 for 4 1 0 0");
        // One that takes none is CALLED, and what is behind it is APPLIED.
        cost("c 1", "1 for 7 2 0 0");
        cost("failed`k`1", "1 places, 1 failed for 0 0 0 0");
        none2("o 1", "failed");
        cost("o", "<fun> for 1 0 0 0");
    }

    private static void none2(String query, String place) {
        cost(query, "1 places, 1 " + place + " for 0 0 0 0");
    }

    private static void lambdas() {
        TEXTS.behind(SIGNS);
        cost("(\\x->x)1", "1 for 3 1 0 0");
        cost("(\\x->(x))1", "1 for 5 1 0 0");
        cost("(\\x->1+2+3)0", "6 for 9 3 0 0");
        cost("(\\_->1)failed", "1 for 3 1 0 0");
        cost("(\\x y->x)1 2", "1 for 3 1 0 0");
        cost("(\\x y->x)1", "<fun> for 1 0 0 0");
        cost("(\\x y->y)1 2", "2 for 3 1 0 0");
        cost("(\\x _->x)1 failed", "1 for 3 1 0 0");
        cost("(\\_ y->y)failed 2", "2 for 3 1 0 0");
        cost("(\\x y z->[z,y,x])1 2 3", "[3,2,1] for 15 1 0 0");
        cost("(\\x y z->[z,y,x])1 2", "<fun> for 1 0 0 0");
        cost("(\\f->f 1 3)((\\x y z->[z,y,x])2)", "[3,1,2] for 19 2 0 0");
        cost("(\\x y->(\\z _->[x,y,z]))1 2 3 4", "[1,2,3] for 29 2 0 0");
        cost("(\\x->(\\y->x))1 2", "1 for 10 2 0 0");
        cost("(\\x-> \\y->x)1 2", "1 for 8 2 0 0");
        cost("(\\f->f 1)(\\x->x)", "1 for 6 2 0 0");
        // (e Op) is a PART without a STEP, (Op e) a LAMBDA of the WEIGHT 1.
        cost("(1+)2", "3 for 2 1 0 0");
        cost("(+1)2", "3 for 4 2 0 0");
        cost("(+(1+1))2", "4 for 5 3 0 0");
        cost("(10-)3", "7 for 2 1 0 0");
        cost("(-10)3", "-7 for 4 2 0 0");
        cost("(1:)[]", "[1] for 3 0 0 0");
        cost("(:[])1", "[1] for 5 1 0 0");
        cost("(`div`2)9", "4 for 4 2 0 0");
        cost("(9`div`)2", "4 for 2 1 0 0");
        cost("(+)1 2", "3 for 2 1 0 0");
        cost("(\\f->2`f`3)(-)", "-1 for 8 2 0 0");
    }

    /** A NODE is worked out once for all who have it. */
    private static void shared() {
        TEXTS.behind("c::Int\nc=1+1\nd::Int->Int\nd x=x+x\n");
        cost("c", "2 for 7 2 0 0");
        cost("(c,c)", "(2,2) for 15 4 0 0");
        cost("let{x=c}in(x,x)", "(2,2) for 9 2 0 0");
        cost("let{x=c;y=x}in(x,y)", "(2,2) for 9 2 0 0");
        cost("let{x=c;y=(x)}in(x,(y))", "(2,2) for 9 2 0 0");
        cost("d c", "4 for 13 4 0 0");
        cost("d(1+1)", "4 for 8 3 0 0");
        cost("(\\x->x+x)(1+1)", "4 for 7 3 0 0");
        cost("case 1+1 of{x->x+x}", "4 for 7 3 0 0");
        cost("let{x=1+1}in x", "2 for 2 1 0 0");
        cost("let{x=failed}in 1", "1 for 1 0 0 0");
        cost("let{f= \\y->1+1}in(f 0,f 0)", "(2,2) for 13 4 0 0");
        cost("x where{y free;x=y;z=x}", "_1 for 2 0 0 0");
    }

    private static void rules() {
        TEXTS.behind("f::Int->Int\nf x=y where{y=x}\ng::Int->Int\ng x=let{y=x}in y\nh::Int->Int->Int\nh 0 y=y\nh x 0=x\nh _ _=5+5\n"
                + "s::Int->Int->Int\ns x y=1\n(%)::Int->Int->Int\nx%y=x\n");
        // The WEIGHT is of = x where { y = x } and of = let { y = x } in y.
        cost("f 1", "1 for 10 1 0 0");
        cost("g 1", "1 for 11 1 0 0");
        cost("s failed failed", "1 for 4 1 0 0");
        cost("1%failed", "1 for 4 1 0 0");
        TEXTS.all("h 0 7", "7; 10; end");
        TEXTS.all("h 7 0", "7; 10; end");
        TEXTS.all("h 0 0", "0; 0; 10; end");
        TEXTS.all("h 1 1", "10; end");
        none3("h 1 1", "5 places, 1 values, 2 failed");
    }

    private static void none3(String query, String places) {
        Tongue t = Tongue.with("h::Int->Int->Int\nh 0 y=y\nh x 0=x\nh _ _=5+5\n");
        t.all(query);
        CHECKS.same("places of " + query, t.places(), places);
    }

    private static void guards() {
        TEXTS.behind("g::Int->Int\ng x|x==1=10|x==2=20\nw::Int->Int\nw x|y==1=y|True=z where{y=x+1;z=y+1}\nb::Bool->Int\nb x|x=1|not x=2\n");
        // The WEIGHT is of | x == 1 = 10 | x == 2 = 20, also if the second guard is not come to.
        cost("g 1", "10 for 15 2 0 0");
        cost("g 2", "20 for 16 3 0 0");
        none2("g 3", "failed");
        cost("w 0", "1 for 28 3 0 0");
        cost("w 1", "3 for 29 4 0 0");
        cost("b True", "1 for 11 1 0 0");
        cost("b False", "2 for 14 2 0 0");
        none2("b x where{x free}", "waiting");
        none2("b failed", "failed");
    }

    private static void choices() {
        TEXTS.behind(SIGNS);
        cost("if True then 1 else failed", "1 for 1 0 0 0");
        cost("if False then failed else 2", "2 for 1 0 0 0");
        cost("if 1==1 then 1 else 2", "1 for 2 1 0 0");
        cost("let{x=1==2}in if x then 1 else if x then 2 else 3", "3 for 2 1 0 0");
        none("if failed then 1 else 1", "failed");
        none("if x then 1 else 1 where{x free}", "waiting");
        cost("(if x then 1 else 2)==2&x=:=False where{x free}", "True for 4 2 0 1");
    }

    private static void cases() {
        TEXTS.behind(SIGNS);
        cost("case 1 of{1->2}", "2 for 3 1 0 0");
        cost("case 2 of{1->1;2->2+0}", "2 for 6 2 0 0");
        cost("case failed of{_->1}", "1 for 3 1 0 0");
        cost("case failed of{x->1;_->2}", "1 for 3 1 0 0");
        cost("case(1,failed)of{(x,_)->x}", "1 for 3 1 0 0");
        cost("case[1,2]of{[]->0;[x]->1;x:y:z->y}", "2 for 3 1 0 0");
        cost("case P 1 2 of{Q->0;P x y->x+y}", "3 for 6 2 0 0");
        cost("case S(S Z)of{S x->x}", "S Z for 4 1 0 0");
        cost("case S(S Z)of{x@(S y@(S _))->(x,y)}", "(S (S Z),S Z) for 12 1 0 0");
        cost("case(1,2,3)of{(x,y,z)->[z,y,x]}", "[3,2,1] for 15 1 0 0");
        cost("case(1,2,3)of{(_,y,_)->y}", "2 for 3 1 0 0");
        cost("case(1,(2,3,4),5)of{(w,(x,y,z),_)->[w,x,y,z]}", "[1,2,3,4] for 19 1 0 0");
        cost("fcase(1,2,3)of{(x,2,z)->[z,x]}", "[3,1] for 11 1 0 0");
        cost("case[1,2,3]of{[x,y,z]->[z,y,x]}", "[3,2,1] for 15 1 0 0");
        cost("case P 1 2 of{x@y@(P z _)->(x,y,z)}", "(P 1 2,P 1 2,1) for 16 1 0 0");
        cost("fcase P 1 2 of{x@y@z@(P 1 v)->(v,z,(y,x))}", "(2,P 1 2,(P 1 2,P 1 2)) for 24 1 0 0");
        // Each constructor or INT ahead of what is in it, then from the left on; at another one the next Alt is tried.
        cost("case(1,failed)of{(2,2)->1;_->7}", "7 for 3 1 0 0");
        none("case(failed,1)of{(2,2)->1;_->7}", "failed");
        cost("case(failed,1)of{(_,2)->1;_->7}", "7 for 3 1 0 0");
        none("case(1,failed)of{(1,2)->1;_->7}", "failed");
        cost("case(1,2,failed)of{(1,1,3)->1;_->7}", "7 for 3 1 0 0");
        none("case(1,2,failed)of{(1,2,3)->1;_->7}", "failed");
        cost("case(1,failed,3)of{(1,_,3)->1;_->7}", "1 for 3 1 0 0");
        cost("case P failed 1 of{P _ 2->3;P _ 1->4}", "4 for 3 1 0 0");
        cost("case([],failed)of{([1],2)->1;_->7}", "7 for 3 1 0 0");
        none("case failed of{1->1;_->7}", "failed");
        none("case 3 of{1->1;2->2}", "failed");
        none("case[]of{[_]->1}", "failed");
        none("case x of{1->1}where{x free}", "waiting");
        none("case x of{Z->1;S _->2}where{x free}", "waiting");
        cost("case x of{y->1;2->2}where{x free}", "1 for 4 1 0 0");
        cost("case(1,x)of{(2,3)->1;(y,_)->y}where{x free}", "1 for 4 1 0 0");
        none("case(1,x)of{(1,3)->1;(y,_)->y}where{x free}", "waiting");
        cost("(case x of{1->5})==5&x=:=1 where{x free}", "True for 6 3 0 1");
    }

    private static void decisions() {
        TEXTS.behind("f::Int->Int\nf x=x\nf x=x+1\nc::Int\nc=0\nc=1\nt::Int->Int->Int\nt 1 _=1\nt _ 1=2\n");
        TEXTS.all("f 1", "1; 2; end");
        cost("f 1", "1 for 4 1 1 0");
        cost("c", "0 for 4 1 1 0");
        TEXTS.all("(c,c)", "(0,0); (0,1); (1,0); (1,1); end");
        TEXTS.all("let{x=c}in(x,x)", "(0,0); (1,1); end");
        TEXTS.all("f c", "0; 1; 1; 2; end");
        TEXTS.all("1?2?3", "1; 2; 3; end");
        cost("1?2", "1 for 4 1 1 0");
        cost("failed?2", "2 for 4 1 1 0");
        TEXTS.all("t 1 1", "1; 2; end");
        TEXTS.all("t 1 2", "1; end");
        TEXTS.all("t 2 1", "2; end");
        TEXTS.all("t 2 2", "end");
        cost("fcase 1 of{1->2}", "2 for 3 1 0 0");
        cost("fcase 1 of{x->x;y->y+1}", "1 for 3 1 1 0");
        TEXTS.all("fcase 1 of{x->x;1->7;2->8;y->y+1}", "1; 7; 2; end");
        TEXTS.all("fcase[c]of{[0]->5;[x]->x;[]->9}", "5; 0; 1; end");
        none2("fcase 3 of{1->1;2->2}", "failed");
        // The NODE of an Expr that is shared is decided once.
        TEXTS.all("let{x=c}in if x==0 then x else x+1", "0; 2; end");
        TEXTS.all("(if c==0 then c else c+1)", "0; 1; 1; 2; end");
    }

    private static void narrowed() {
        TEXTS.behind(SIGNS + "p::N->N\np(S x)=x\nq::P->Int\nq(P a b)=1\nz::N->Int\nz Z=1\nz(S _)=2\nk::Int->Int\nk 3=4\nm::Int->Int\nm 3=4\nm 0=5\nm 3=6\n"
                + "l::[a]->Int\nl[]=1\nl[_]=2\nu::()->Int\nu()=1\n");
        cost("p x where{x free}", "_1 for 8 1 0 1");
        cost("q x where{x free}", "1 for 10 1 0 1");
        cost("k x where{x free}", "4 for 6 1 0 1");
        cost("u x where{x free}", "1 for 6 1 0 1");
        cost("z x where{x free}", "1 for 6 1 1 1");
        CHECKS.same("with a VAR", Tongue.with(SIGNS + "z::N->Int\nz Z=1\nz(S _)=2\n").all("z x where{x free}"), "1 x=Z; 2 x=S _1; end");
        CHECKS.same("INTS", Tongue.with("m::Int->Int\nm 3=4\nm 0=5\nm 3=6\n").all("m x where{x free}"), "4 x=3; 6 x=3; 5 x=0; end");
        TEXTS.all("l x where{x free}", "1 x=[]; 2 x=[_1]; end");
        cost("fcase x of{1->2;2->3}where{x free}", "2 for 5 1 1 1");
        cost("fcase x of{1->2}where{x free}", "2 for 5 1 0 1");
        TEXTS.all("fcase x of{(1,y)->y;(2,3)->7}where{x free}", "_1 x=(1,_1); 7 x=(2,3); end");
        TEXTS.all("z x+z x where{x free}", "2 x=Z; 4 x=S _1; end");
        TEXTS.all("not x where{x free}", "True x=False; False x=True; end");
        TEXTS.all("x&&y where{x,y free}", "False x=False,y=_1; _1 x=True,y=_1; end");
    }

    private static void numbers() {
        TEXTS.behind(SIGNS);
        String[] due = {"7+5=12", "7-5=2", "5-7=-2", "7*5=35", "0*5=0", "7`div`5=1", "7`mod`5=2", "1<2=True", "2<2=False", "3<2=False", "1<=2=True", "2<=2=True",
            "3<=2=False", "1>2=False", "2>2=False", "3>2=True", "1>=2=False", "2>=2=True", "3>=2=True"};
        for (String line : due) {
            int end = line.lastIndexOf('=');
            cost(line.substring(0, end), line.substring(end + 1) + " for 2 1 0 0");
        }
        for (String op : new String[] {"+", "-", "*", "`div`", "`mod`", "<", "<=", ">", ">="}) {
            none("failed" + op + "x where{x free}", "failed");
            none("x" + op + "failed where{x free}", "waiting");
            none("1" + op + "failed", "failed");
            none("1" + op + "x where{x free}", "waiting");
        }
    }

    /** 64 bits; the texts have INTS of nine digits at the most. */
    private static void numbersGoRound() {
        String numbers = " where{a=65536*65536;b=a`div`2;least=b*a;most=least-1}";
        String[] due = {"least=-9223372036854775808", "most=9223372036854775807", "most+1=-9223372036854775808", "least-1=9223372036854775807",
            "0-least=-9223372036854775808", "0-most=-9223372036854775807", "least*least=0", "most*most=1", "most*2=-2", "least*(0-1)=-9223372036854775808",
            "a*a=0", "least`div`(0-1)=-9223372036854775808", "least`mod`(0-1)=0", "most`div`(0-1)=-9223372036854775807", "least`div`1=-9223372036854775808",
            "least`div`2=-4611686018427387904", "most`div`2=4611686018427387903", "least`div`most=-2", "least`mod`most=9223372036854775806",
            "most`div`least=-1", "most`mod`least=-1", "least`div`least=1", "least`mod`least=0", "least`mod`2=0", "most`mod`2=1"};
        for (String line : due) {
            int end = line.lastIndexOf('=');
            TEXTS.all(line.substring(0, end) + numbers, line.substring(end + 1) + "; end");
        }
        String[] compared = {"least<most=True", "most<least=False", "least<=least=True", "least-1>least=True", "most+1<most=True", "most==least-1=True", "most=:=least-1=True",
            "least==most=False", "most/=least=True"};
        for (String line : compared) {
            int end = line.lastIndexOf('=');
            TEXTS.all(line.substring(0, end) + numbers, line.substring(end + 1) + "; end");
        }
        TEXTS.all("case most-9223372 of{9->1;x->2}" + numbers, "2; end");
        TEXTS.all("case a-a+7 of{7->1;x->2}" + numbers, "1; end");
        // An INT of a pattern has no more than nine digits, a NODE may have all 64 bits.
        TEXTS.all("case a of{0->1;x->x}" + numbers, "4294967296; end");
        TEXTS.all("fcase a+1 of{1->1;2->2}" + numbers, "end");
    }

    private static void divided() {
        TEXTS.behind(SIGNS);
        String[] due = {"(0-7)`div`2=-4", "(0-7)`mod`2=1", "7`div`(0-2)=-4", "7`mod`(0-2)=-1", "(0-7)`div`(0-2)=3", "(0-7)`mod`(0-2)=-1", "(0-6)`div`3=-2", "(0-6)`mod`3=0",
            "6`div`(0-3)=-2", "6`mod`(0-3)=0", "0`div`5=0", "0`mod`5=0", "0`div`(0-5)=0", "0`mod`(0-5)=0", "(0-1)`div`5=-1", "(0-1)`mod`5=4", "1`div`(0-5)=-1", "1`mod`(0-5)=-4"};
        for (String line : due) {
            int end = line.lastIndexOf('=');
            TEXTS.all(line.substring(0, end), line.substring(end + 1) + "; end");
        }
        for (String op : new String[] {"`div`", "`mod`"}) {
            none("1" + op + "0", "failed");
            none("0" + op + "0", "failed");
            none("(0-1)" + op + "(1-1)", "failed");
            none("failed" + op + "0", "failed");
            none("x" + op + "0 where{x free}", "waiting");
        }
    }

    private static void equal() {
        TEXTS.behind(SIGNS);
        cost("1==1", "True for 2 1 0 0");
        cost("1==2", "False for 2 1 0 0");
        cost("()==()", "True for 2 1 0 0");
        cost("[]==[1]", "False for 2 1 0 0");
        cost("[1]==[]", "False for 2 1 0 0");
        cost("Z==S failed", "False for 2 1 0 0");
        // Alike DATA: as many NODES as it has, then each of these, and && of the WEIGHT 2.
        cost("S Z==S Z", "True for 4 2 0 0");
        cost("[1]==[1]", "True for 9 4 0 0");
        cost("(1,2)==(2,failed)", "False for 8 3 0 0");
        cost("(1,2,3)==(1,2,3)", "True for 14 6 0 0");
        cost("(1,2,3)==(1,3,failed)", "False for 13 5 0 0");
        cost("P 1 2==P 1 2", "True for 9 4 0 0");
        none("failed==x where{x free}", "failed");
        none("x==failed where{x free}", "waiting");
        none("x==x where{x free}", "waiting");
        none("1==x where{x free}", "waiting");
        none("(1,x)==(1,2)where{x free}", "waiting");
        cost("(1,x)==(2,2)where{x free}", "False for 9 3 0 0");
        none("S==S", "failed");
        none("(+)==(+)", "failed");
        none("[not]==[not]", "failed");
        none("not==x where{x free}", "waiting");
        none("x==not where{x free}", "waiting");
    }

    private static void unequal() {
        TEXTS.behind(SIGNS);
        cost("1/=2", "True for 6 3 0 0");
        cost("1/=1", "False for 6 3 0 0");
        cost("[]/=[1]", "True for 6 3 0 0");
        cost("[1]/=[1]", "False for 13 6 0 0");
        none("failed/=1", "failed");
        none("x/=1 where{x free}", "waiting");
        none("S/=S", "failed");
        // Its STEP needs nothing: it is done once, ahead of what WAITS.
        cost("x/=1&x=:=2 where{x free}", "True for 8 4 0 1");
    }

    private static void equations() {
        TEXTS.behind(SIGNS);
        cost("1=:=1", "True for 2 1 0 0");
        none("1=:=2", "failed");
        cost("()=:=()", "True for 2 1 0 0");
        none("[]=:=[1]", "failed");
        none("Z=:=S failed", "failed");
        cost("S Z=:=S Z", "True for 4 2 0 0");
        cost("[1]=:=[1]", "True for 6 3 0 0");
        cost("(1,2,3)=:=(1,2,3)", "True for 8 4 0 0");
        none("(1,2,3)=:=(1,2,4)", "failed");
        none("failed=:=x where{x free}", "failed");
        none("x=:=failed where{x free}", "failed");
        none("S=:=S", "failed");
        none("x=:=S where{x free}", "failed");
        none("not=:=x where{x free}", "failed");
        none("[x]=:=[not]where{x free}", "failed");
    }

    private static void equationsOfVars() {
        TEXTS.behind(SIGNS);
        cost("x=:=1 where{x free}", "True for 3 1 0 1");
        cost("1=:=x where{x free}", "True for 3 1 0 1");
        cost("x=:=x where{x free}", "True for 3 1 0 0");
        cost("x=:=y where{x,y free}", "True for 4 1 0 1");
        TEXTS.all("x=:=y where{x,y,z free}", "True x=_1,y=_1,z=_2; end");
        TEXTS.all("(z,x=:=y)where{x,y,z free}", "(_1,True) x=_2,y=_2,z=_1; end");
        cost("x=:=y&y=:=x where{x,y free}", "True for 5 2 0 1");
        cost("x=:=y&y=:=z&z=:=x where{x,y,z free}", "True for 7 3 0 2");
        cost("x=:=y&y=:=1&x==1 where{x,y free}", "True for 6 3 0 2");
        none("x=:=1&x=:=2 where{x free}", "failed");
        // One FREE VAR and DATA: the WEIGHT is how many NODES that has.
        cost("x=:=Z where{x free}", "True for 3 1 0 1");
        cost("x=:=S Z where{x free}", "True for 6 2 0 2");
        cost("S Z=:=x where{x free}", "True for 6 2 0 2");
        cost("x=:=[1]where{x free}", "True for 9 3 0 3");
        cost("[1]=:=x where{x free}", "True for 9 3 0 3");
        cost("x=:=P y 2 where{x,y free}", "True for 10 3 0 3");
        TEXTS.all("x=:=P y 2 where{x,y free}", "True x=P _1 2,y=_1; end");
        TEXTS.all("(x,1)=:=(2,y)where{x,y free}", "True x=2,y=1; end");
        none("x=:=S failed where{x free}", "failed");
        none("x=:=S x where{x free}", "given up");
        none("S x=:=Z where{x free}", "failed");
        // New FREE VARS are on the side of the VAR: in y =:= c that side is BOUND.
        cost("P y 2=:=x where{x,y free}", "True for 10 3 0 3");
    }

    private static void both() {
        TEXTS.behind(SIGNS);
        cost("True&True", "True for 1 0 0 0");
        cost("True&False", "False for 1 0 0 0");
        cost("False&True", "False for 1 0 0 0");
        cost("False&failed", "False for 1 0 0 0");
        none("failed&False", "failed");
        none("True&failed", "failed");
        cost("x&False where{x free}", "False for 2 0 0 0");
        cost("x&True where{x free}", "_1 for 2 0 0 0");
        cost("True&x where{x free}", "_1 for 2 0 0 0");
        none("x&failed where{x free}", "failed");
        none("x&y where{x,y free}", "waiting");
        none("x&x where{x free}", "waiting");
        cost("x&x=:=True where{x free}", "True for 3 1 0 1");
        cost("x&x=:=False where{x free}", "False for 3 1 0 1");
        cost("x=:=True&x where{x free}", "True for 3 1 0 1");
        cost("x==1&x=:=1 where{x free}", "True for 4 2 0 1");
        cost("x==1&x=:=2 where{x free}", "False for 4 2 0 1");
        cost("x==1&y==2&x=:=1&y=:=2 where{x,y free}", "True for 7 4 0 2");
        // The innermost & around goes on.
        cost("not(x==1&y==1)&False where{x,y free}", "False for 3 0 0 0");
        cost("1+(if x==1&False then 1 else 2)where{x free}", "3 for 3 1 0 0");
        none("1+(if x==1&True then 1 else 2)where{x free}", "waiting");
        cost("(x==1&y=:=2)&(y==2&x=:=1)where{x,y free}", "True for 7 4 0 2");
    }

    /** When both sides WAIT it begins anew, if some VAR was BOUND meanwhile. */
    private static void bothAnew() {
        TEXTS.behind(SIGNS);
        cost("(case y of{1->z=:=3})&(y=:=1&z==3)where{y,z free}", "True for 10 4 0 2");
        none("(case y of{1->z=:=3})&(x=:=1&z==3)where{x,y,z free}", "waiting");
        none("(case y of{1->z=:=3})&(1=:=1&z==3)where{y,z free}", "waiting");
        none("(case y of{1->z=:=3})&(x=:=x&z==3)where{x,y,z free}", "waiting");
        // A SPAN is no BINDING.
        none("label[x]&(span x 1 1&y==2)where{x,y free}", "waiting");
        cost("label[x]&(span x 1 1&y=:=2)where{x,y free}", "True for 7 3 0 2");
        none("label[x]&(span x 1 1&(z=:=1&y==2))where{x,y,z free}", "waiting");
        TEXTS.all("(label[x]&(span x 1 1&(z=:=1&y==2)))&y=:=2 where{x,y,z free}", "True x=1,y=2,z=1; end");
        // x is BOUND only when it is begun anew, and then y goes on.
        TEXTS.all("(case x of{1->y=:=2})&((case y of{2->z=:=3})&(x=:=1&z==3))where{x,y,z free}", "True x=1,y=2,z=3; end");
        TEXTS.all("(case x of{1->True})&((case y of{2->x=:=1})&(case z of{3->y=:=2})&z=:=3)where{x,y,z free}", "True x=1,y=2,z=3; end");
    }

    /** What WAITS keeps what it has come to: a STEP that was done is not done again. */
    private static void kept() {
        TEXTS.behind(SIGNS + "g::Int->Int->Int\ng x y|x+0==1=7|y==2=8\nh::Int->Int->Int\nh x 1=y+x where{y=x+x}\n");
        cost("1+(2+x)==6&x=:=3 where{x free}", "True for 6 4 0 1");
        cost("(1+1)+x==6&x=:=4 where{x free}", "True for 6 4 0 1");
        cost("g 0 y==8&y=:=2 where{y free}", "True for 22 6 0 1");
        cost("h x 1==9&x=:=3 where{x free}", "True for 19 5 0 1");
        cost("(case(x,1+1)of{(1,2)->5})==5&x=:=1 where{x free}", "True for 7 4 0 1");
        cost("(if x then 1+1 else 2)==2&x=:=True where{x free}", "True for 5 3 0 1");
        cost("(\\z->z+x)1==3&x=:=2 where{x free}", "True for 9 4 0 1");
    }

    private static void waits() {
        TEXTS.behind(SIGNS);
        none("x+1 where{x free}", "waiting");
        none("f 1 where{f free}", "waiting");
        none("(x+1,failed)where{x free}", "waiting");
        none("(failed,x+1)where{x free}", "failed");
        none("map f[1]where{f free}", "waiting");
        // The free names are brought to NORMAL FORM, too.
        none("(1,x)where{y free;x=y+1;z free}", "waiting");
        cost("1 where{y free;x=y+1}", "1 for 2 0 0 0");
        TEXTS.all("x where{x,y free}", "_1 x=_1,y=_2; end");
        TEXTS.all("y where{x,y free}", "_1 x=_2,y=_1; end");
        TEXTS.all("(x=:=[y],1)where{y,x free}", "(True,1) y=_1,x=[_1]; end");
    }
}
