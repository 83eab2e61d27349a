/** Part III, CAPSULES: sets of values as values, and what they cost. */
public final class CapsulesTest {
    private static final Checks CHECKS = new Checks();
    private static final Texts TEXTS = new Texts(CHECKS);
    private static final String MODULE = "data N=Z|S N\ni::a->a\ni x=x\nc::Int\nc=0\nc=1\nk::Int->Int\nk 3=4\ne::a->a->Bool\ne x y=x=:=y\nhd::[a]->a\nhd(x:_)=x\n"
            + "g::Int->[Int]\ng y=set i y\n";

    public static void main(String[] args) {
        values();
        begunWhenNeeded();
        begunAnew();
        alternatives();
        left();
        outsideVars();
        equationsOutside();
        equationsOfOneOutside();
        spansOutside();
        keptOutside();
        varsOfValues();
        headsOfValues();
        partsInside();
        givenUpInside();
        nested();
        nestedAndOutside();
        twelve();
        primitives();
        bindingsAsCounted();
        betweenAnds();
        CHECKS.end();
    }

    private static void cost(String query, String due) {
        TEXTS.cost(query, due);
    }

    private static void none(String query, String place) {
        TEXTS.cost(query, "1 places, 1 " + place + " for 0 0 0 0");
    }

    private static void values() {
        TEXTS.behind(MODULE);
        cost("set failed", "[] for 1 0 0 0");
        cost("set c", "[0,1] for 17 2 0 0");
        cost("set i 1", "[1] for 11 1 0 0");
        cost("set i(1+1)", "[2] for 12 2 0 0");
        cost("set i[1]", "[[1]] for 21 1 0 0");
        cost("set i()", "[()] for 11 1 0 0");
        TEXTS.all("set i c", "[0]; [1]; end");
        TEXTS.all("set c==[c,1]", "True; False; end");
        TEXTS.all("(set c,c)", "([0,1],0); ([0,1],1); end");
        TEXTS.all("let{x=c}in(set i x,x)", "([0],0); ([1],1); end");
        TEXTS.all("let{s=set c}in(s,s)", "([0,1],[0,1]); end");
        TEXTS.all("map(+1)(set c)", "[1,2]; end");
    }

    private static void begunWhenNeeded() {
        TEXTS.behind(MODULE + "lp::Int->Int\nlp x=lp x\n");
        cost("let{s=set lp 0}in 1", "1 for 1 0 0 0");
        none("set lp 0", "given up");
        cost("case(1,set lp 0)of{(x,_)->x}", "1 for 3 1 0 0");
        // Once for all who have it.
        cost("let{s=set c}in(s,s)", "([0,1],[0,1]) for 23 2 0 0");
    }

    /** A NODE OUTSIDE that is no HEAD: what was LABOURED stays, STEPS and BINDINGS do not. */
    private static void begunAnew() {
        TEXTS.behind(MODULE + "t::Int->Int->Int\nt x y=x+y\nv::Int->(Int,Int)\nv x=(y,y=:=1&>x)where{y free}\n");
        cost("let{x=1}in case x of{1->set i x}", "[1] for 12 2 0 0");
        // t costs 5: three times it is begun, for x and y; a STEP of + , a HEAD, a VALUE of one HEAD; the list.
        cost("set t 1 2", "[3] for 21 2 0 0");
        cost("set t(1+1)(2+2)", "[6] for 23 4 0 0");
        cost("let{x=1+1}in set t x x", "[4] for 17 3 0 0");
        none("set i failed", "failed");
        none("set t 1 failed", "failed");
        TEXTS.all("set t c c", "[0]; [1]; [1]; [2]; end");
        TEXTS.all("let{x=c}in set t x x", "[0]; [2]; end");
        // v costs 16, and 6 up to x; y is BOUND twice, and counted once.
        cost("set v 7", "[(1,7)] for 53 3 0 1");
        none("set i(x+1)where{x free}", "waiting");
        cost("set i(x+1)==[3]&x=:=2 where{x free}", "True for 23 7 0 1");
    }

    /** Each ALTERNATIVE costs 1 first; the way up to a DECISION counts once. */
    private static void alternatives() {
        TEXTS.behind(MODULE + "pr::Int->Int\npr x=case 1+1 of{2->c}\nn::Int->Int\nn 1=1\nn 2=2\nn 4=4\nm::Int\nm=n x where{x free}\nw::Int->Int\nw 1=1\nw 2=2\nu::Int\nu=w 3\n"
                + "o::Int->Int->Int\no 1 _=1\no _ 1=1\nq::Int\nq=o 2 2\nz::Int\nz=fcase 1 of{1->2}\nr::(Int,Int)\nr=(c,c)\n");
        cost("set pr 0", "[0,1] for 32 5 0 0");
        // m: 9; each ALTERNATIVE 1, narrowing 1, a STEP of 3, a HEAD, a VALUE of one HEAD; the list 7.
        cost("set m", "[1,2,4] for 37 4 0 3");
        // No child: no DECISION. One child: none either.
        cost("set u", "[] for 5 1 0 0");
        cost("set z", "[2] for 17 2 0 0");
        // Two ALTERNATIVES that FAIL without a STEP.
        cost("set q", "[] for 8 1 0 0");
        // A tuple, then two times two: the second ones of the first one's both.
        TEXTS.all("set r", "[(0,0),(0,1),(1,0),(1,1)]; end");
        cost("set r", "[(0,0),(0,1),(1,0),(1,1)] for 67 7 0 0");
    }

    private static void left() {
        TEXTS.behind(MODULE + "n::Int->Int\nn _=1\nn _=failed\nn _=y+1 where{y free}\nn _=4\nd::N->Int\nd Z=0\nd(S x)=1+d x\na::Int->Int\na x=x\na _=failed\na x=x\n");
        TEXTS.all("set n 0", "[1,4]; end");
        TEXTS.all("set a 7", "[7,7]; end");
        TEXTS.all("set d(S(S Z))", "[2]; end");
        // An & inside goes on, what WAITS outside of it is left out.
        TEXTS.behind("f::Bool->Bool\nf _=x&False where{x free}\nf _=x&True where{x free}\nf _=(x==1&y==1)where{x,y free}\nf _=x==1&x=:=1 where{x free}\n");
        TEXTS.all("set f True", "[False,_1,True]; end");
    }

    private static void outsideVars() {
        TEXTS.behind(MODULE + "s::N->Int\ns Z=0\ns(S _)=1\np::N->N\np(S x)=x\nf::(Int->Int)->Int\nf g=g 1\nb::Bool->Int\nb x=if x then 1 else 2\ny::Int->Int\ny x|x==1=2\n");
        cost("set i x where{x free}", "[_1] for 9 1 0 0");
        cost("set i[x,y]where{x,y free}", "[[_1,_2]] for 25 1 0 0");
        // Narrowed by a BRANCH, of one child, too.
        none("set s x where{x free}", "waiting");
        none("set p x where{x free}", "waiting");
        none("set k x where{x free}", "waiting");
        cost("set k x==[4]&x=:=3 where{x free}", "True for 16 6 0 1");
        TEXTS.all("set k x==[4]&(x=:=2?x=:=3)where{x free}", "False x=2; True x=3; end");
        TEXTS.all("set s x==[1]&x=:=S y where{x,y free}", "True x=S _1,y=_1; end");
        // Needed as something else.
        none("set f x where{x free}", "waiting");
        none("set b x where{x free}", "waiting");
        none("set y x where{x free}", "waiting");
        TEXTS.all("set b x==[2]&x=:=False where{x free}", "True x=False; end");
        TEXTS.all("set y x==[2]&x=:=1 where{x free}", "True x=1; end");
        TEXTS.all("set y x==[]&x=:=2 where{x free}", "True x=2; end");
        // An & inside of the CAPSULE does not go on for a VAR OUTSIDE.
        TEXTS.behind("f::Bool->Bool\nf x=x&False\ng::Bool->Bool\ng x=let{y free}in y&False\n");
        none("set f x where{x free}", "waiting");
        TEXTS.all("set f x==[False]&x=:=True where{x free}", "True x=True; end");
        TEXTS.all("set g x where{x free}", "[False] x=_1; end");
    }

    private static void equationsOutside() {
        TEXTS.behind(MODULE + "e1::Int->Bool\ne1 x=x=:=2\nej::[Int]->Bool\nej x=x=:=[]\npt::(Int->Int)->Bool\npt x=x=:=(+1)\n");
        none("set e x 1 where{x free}", "waiting");
        none("set e 1 x where{x free}", "waiting");
        cost("set e x x where{x free}", "[True] for 12 2 0 0");
        none("set e x y where{x,y free}", "waiting");
        TEXTS.all("set e x y==[True]&x=:=y where{x,y free}", "True x=_1,y=_1; end");
        TEXTS.all("set e x y==[]&x=:=1&y=:=2 where{x,y free}", "True x=1,y=2; end");
        // The STEP of =:= is done ahead of that, so that its LABOUR stays.
        cost("set e1 x==[True]&x=:=2 where{x free}", "True for 25 7 0 1");
        none("set ej x where{x free}", "waiting");
        // A PART FAILS, with a FREE VAR OUTSIDE, too.
        cost("set pt x where{x free}", "[] for 11 2 0 0");
    }

    /** Of two FREE VARS, one of which is OUTSIDE, the other one is BOUND to it. */
    private static void equationsOfOneOutside() {
        String module = MODULE + "wl::a->(a,Bool)\nwl x=(y,x=:=y)where{y free}\nwr::a->(a,Bool)\nwr x=(y,y=:=x)where{y free}\n"
                + "sl::Int->Bool\nsl x=span y 1 3&x=:=y where{y free}\nsr::Int->Bool\nsr x=span y 1 3&y=:=x where{y free}\n";
        TEXTS.behind(module);
        cost("set wl x where{x free}", "[(_1,True)] for 27 2 0 1");
        cost("set wr x where{x free}", "[(_1,True)] for 27 2 0 1");
        TEXTS.all("set wl x where{x free}", "[(_1,True)] x=_1; end");
        TEXTS.all("set wl x==[(7,True)]&x=:=7 where{x free}", "True x=7; end");
        TEXTS.all("hd(set wr x)=:=(7,True)where{x free}", "True x=7; end");
        // If the one that would be BOUND has a SPAN, the CAPSULE WAITS for the one OUTSIDE.
        none("set sl x where{x free}", "waiting");
        none("set sr x where{x free}", "waiting");
        none("span x 1 3&set sl x==[True]where{x free}", "waiting");
        TEXTS.all("set sl x==[True]&x=:=2 where{x free}", "True x=2; end");
        TEXTS.all("set sr x==[True]&x=:=3 where{x free}", "True x=3; end");
        TEXTS.all("set sr x==[]&x=:=4 where{x free}", "True x=4; end");
        // That of the one OUTSIDE does not count.
        TEXTS.all("span x 1 3&>set wl x where{x free}", "[(_1,True)] x=_1; end");
    }

    private static void spansOutside() {
        String module = "sp::Int->Bool\nsp x=span x 1 3\nat::Int->Bool\nat x=atMost[1][x]3\neq::Int->Bool\neq x=equalTo[1][x]3\ndf::Int->Bool\ndf x=differ[x]\n"
                + "la::Int->Bool\nla x=label[x]\nas::Int->Bool\nas x=atMost[x][1]3\nls::[Int]->Bool\nls x=differ x\ns2::Int->Bool\ns2 x=span 1 x 3\n"
                + "df2::Int->Bool\ndf2 x=differ[1,2,x,failed]\n";
        TEXTS.behind(module);
        for (String fun : new String[] {"sp", "at", "eq", "df", "la", "as", "ls", "s2", "df2"}) {
            none("set " + fun + " x where{x free}", "waiting");
        }
        none("span x 1 1&set la x==[True]where{x free}", "waiting");
        // As soon as it is come to, ahead of the STEP: the 6 of sp are all that stays.
        cost("set sp x==[True]&x=:=2 where{x free}", "True for 26 7 0 1");
        TEXTS.all("set sp x==[]&x=:=4 where{x free}", "True x=4; end");
        TEXTS.all("set at x==[True]&x=:=3 where{x free}", "True x=3; end");
        TEXTS.all("set eq x==[]&x=:=4 where{x free}", "True x=4; end");
        TEXTS.all("set df x==[True]&x=:=4 where{x free}", "True x=4; end");
        TEXTS.all("set la x==[True]&x=:=4 where{x free}", "True x=4; end");
        TEXTS.all("set ls x==[True]&x=:=[]where{x free}", "True x=[]; end");
        TEXTS.all("set df2 x==[True]&x=:=1 where{x free}", "False x=1; end");
    }

    /** What is KEPT around a CAPSULE holds in it, and what is KEPT in it is gone at its end. */
    private static void keptOutside() {
        TEXTS.behind(MODULE + "ins::Int->Int\nins x=(span y 1 2&(differ[y,x]&label[y]))&>y where{y free}\nfr::Int->Int\nfr x=(span y 1 2&label[y])&>y where{y free}\n"
                + "vs::Int\nvs=(span y 1 3&differ[y,1])&>y where{y free}\n");
        TEXTS.all("set ins 1", "[2]; end");
        TEXTS.all("set ins 2", "[1]; end");
        TEXTS.all("set ins 3", "[1,2]; end");
        TEXTS.all("differ[x,1]&>set fr 0 where{x free}", "[1,2] x=_1; end");
        TEXTS.all("case set vs of{[y]->y=:=1}", "True; end");
        TEXTS.all("case set vs of{[y]->y=:=9}", "True; end");
    }

    private static void varsOfValues() {
        TEXTS.behind(MODULE + "un::Int->(Int,Int,Int)\nun _=(x,y,x)where{x,y free}\nun _=(x,x,y)where{x,y free}\nsv::Int\nsv=span x 1 3&>x where{x free}\n"
                + "two::Int->(Int,Int)\ntwo x=(x,y)where{y free}\ncn::[N]\ncn=x=:=[y,z]&>x where{x,y,z free}\n");
        TEXTS.all("set un 0", "[(_1,_2,_1),(_3,_3,_4)]; end");
        TEXTS.all("set two x where{x free}", "[(_1,_2)] x=_1; end");
        TEXTS.all("(set two x,set two x)where{x free}", "([(_1,_2)],[(_1,_3)]) x=_1; end");
        // They have no SPANS; those that are OUTSIDE keep theirs.
        TEXTS.all("case set sv of{[y]->y=:=9}", "True; end");
        TEXTS.all("span x 1 3&(case set i x of{[y]->y=:=3})where{x free}", "True x=3; end");
        none("span x 1 3&(case set i x of{[y]->y=:=4})where{x free}", "failed");
        TEXTS.all("let{s=set un 0}in case s of{(x,_,_):_->x=:=5&>s}", "[(5,_1,5),(_2,_2,_3)]; end");
        TEXTS.all("set cn", "[[_1,_2]]; end");
    }

    /** A VALUE costs as many HEADS as it has then, each as often as it stands in it. */
    private static void headsOfValues() {
        TEXTS.behind(MODULE + "dd::((Int,Int),(Int,Int))\ndd=(p,p)where{p=(1,1)}\nvb::((Int,Int),Bool)\nvb=(x,x=:=(1,2))where{x free}\n");
        cost("dd", "((1,1),(1,1)) for 24 1 0 0");
        cost("set dd", "[((1,1),(1,1))] for 40 1 0 0");
        // What a VAR is BOUND to that NORMAL FORM came to while it was FREE.
        cost("vb", "((1,2),True) for 26 4 0 3");
        cost("set vb", "[((1,2),True)] for 38 4 0 3");
        cost("let{x=[1,2]}in case x==[1,2]of{True->set i x}", "[[1,2]] for 39 9 0 0");
    }

    /** A PART that NORMAL FORM comes to in it GIVES UP the path outside at once. */
    private static void partsInside() {
        TEXTS.behind(MODULE + "lam::Int->Int\nlam= \\x->x\nap::(Bool->Bool)->Bool\nap f=f True\npf::Int->(Int,Int->Int)\npf _=(failed,(+1))\n"
                + "fp::Int->(Int->Int,Int)\nfp _=((+1),failed)\nal::Int->(Int->Int)\nal _=failed\nal _=(+1)\n");
        cost("lam", "<fun> for 7 1 0 0");
        none("set lam", "given up");
        none("set i not", "given up");
        none("set i S", "given up");
        none("set i[not]", "given up");
        none("set i(1,\\x->x)", "given up");
        none("set al 0", "given up");
        none("set fp 0", "given up");
        cost("set pf 0", "[] for 12 1 0 0");
        TEXTS.all("set ap not", "[False]; end");
        TEXTS.all("(hd(set lam)1)?2", "2; end");
        TEXTS.all("set not True==[False]&>(\\x->x)", "<fun>; end");
    }

    private static void givenUpInside() {
        StringBuilder many = new StringBuilder("o::Int->Int->Int\n");
        for (int i = 0; i < 150; i++) {
            many.append("o 1 _=1\no _ 1=1\n");
        }
        String module = many + MODULE + "lp::Int->Int\nlp x=lp x\nn::Int->Int\nn x=x?n(x+1)\nq::Int\nq=o 2 2?o 2 2?o 2 2?o 2 2\nd::[Int]->Bool\nd x=differ x\n"
                + "wy::Int->Int\nwy n=(span x 1 n&label[x])&>x where{x free}\n";
        TEXTS.behind(module);
        none("set lp 0", "given up");
        none("set n 0", "given up");
        TEXTS.all("hd(set n 0)?2", "2; end");
        TEXTS.all("2?hd(set n 0)", "2; end");
        none("set d[" + "1,".repeat(32) + "1]", "given up");
        none("set wy 201", "given up");
        CHECKS.same("200 ways", Tongue.with(module).first("set wy 200").length(), 2 + 199 + 9 + 2 * 90 + 3 * 101);
        // It is never SPENT: here are 1200 PLACES that FAIL.
        CHECKS.same("a SEARCH", Tongue.with(module).all("q"), "spent");
        TEXTS.all("set q", "[]; end");
    }

    private static void nested() {
        TEXTS.behind(MODULE + "g2::[Int]\ng2=set i(1+1)\nrr::[[Int]]\nrr=set g c\n");
        cost("set g 1", "[[1]] for 29 2 0 0");
        cost("set g2", "[[2]] for 29 3 0 0");
        TEXTS.all("set g c", "[[0]]; [[1]]; end");
        TEXTS.all("set rr", "[[[0]],[[1]]]; end");
        TEXTS.all("rr", "[[0]]; [[1]]; end");
    }

    /** What is OUTSIDE of several gives them all up; the outermost of these WAITS. */
    private static void nestedAndOutside() {
        TEXTS.behind(MODULE + "g3::Int->[Int]\ng3 y=set k y\ng4::[Int]\ng4=set k z where{z free}\ng5::Bool\ng5=set k z==[4]&z=:=3 where{z free}\n"
                + "hz::Int->Int->Bool\nhz y z=z=:=y\nh1::Int->[Bool]\nh1 y=set hz y z where{z free}\nhy::Int->Int->Bool\nhy y z=y=:=z\nh2::Int->[Bool]\nh2 y=set hy y z where{z free}\n"
                + "g6::Int->Bool\ng6 y=(set k y==[4]&z=:=1)&(z==1&False)where{z free}\n");
        none("set g3 x where{x free}", "waiting");
        TEXTS.all("set g3 x==[[4]]&x=:=3 where{x free}", "True x=3; end");
        TEXTS.all("set g4", "[]; end");
        TEXTS.all("set g5", "[True]; end");
        // Both are OUTSIDE of the innermost one: the left one would be BOUND.
        TEXTS.all("set h1 x where{x free}", "[] x=_1; end");
        none("set h2 x where{x free}", "waiting");
        TEXTS.all("set h2 x==[[True]]&x=:=1 where{x free}", "False x=1; end");
        // An & in the outer one does not go on.
        none("set g6 x where{x free}", "waiting");
        TEXTS.all("g6 x where{x free}", "False x=_1; end");
    }

    private static void twelve() {
        StringBuilder text = new StringBuilder("c0::Int\nc0=1\n");
        for (int i = 1; i <= 14; i++) {
            text.append("c").append(i).append("::").append("[".repeat(i)).append("Int").append("]".repeat(i)).append("\nc").append(i).append("=set c").append(i - 1).append("\n");
        }
        TEXTS.behind(text.toString());
        for (int i = 10; i <= 14; i++) {
            if (i <= 12) {
                TEXTS.all("c" + i, "[".repeat(i) + "1" + "]".repeat(i) + "; end");
                TEXTS.all("let{x=c" + i + "}in case x of{_:_->(x==x,c0)}", "(True,1); end");
            } else {
                none("c" + i, "given up");
            }
            if (i < 12) {
                TEXTS.all("set c" + i, "[".repeat(i + 1) + "1" + "]".repeat(i + 1) + "; end");
            } else {
                none("set c" + i, "given up");
            }
        }
        // One behind the other they are not in one another.
        TEXTS.all("(c12,c12)==(c12,c12)", "True; end");
    }

    private static void primitives() {
        TEXTS.behind(MODULE);
        cost("set div 7 2", "[3] for 6 1 0 0");
        TEXTS.all("set div 1 0", "[]; end");
        TEXTS.all("set mod 7 4", "[3]; end");
        TEXTS.all("set span 2 1 3", "[True]; end");
        TEXTS.all("set span 4 1 3", "[]; end");
        TEXTS.all("set differ[1,2]", "[True]; end");
        TEXTS.all("set differ[1,1]", "[]; end");
        TEXTS.all("set label[]", "[True]; end");
        TEXTS.all("set atMost[1][1]1", "[True]; end");
        TEXTS.all("set equalTo[1][1]2", "[]; end");
        TEXTS.all("set not True", "[False]; end");
        TEXTS.all("set map not[True,False]", "[[False,True]]; end");
        none("set div x 1 where{x free}", "waiting");
        none("set not x where{x free}", "waiting");
        none("set span x 1 3 where{x free}", "waiting");
        none("set label[x]where{x free}", "waiting");
        none("set differ[x]where{x free}", "waiting");
    }

    /** Whether an & begins anew is told by count(12), which has the BINDINGS of CAPSULES, too. */
    private static void bindingsAsCounted() {
        TEXTS.behind(MODULE + "sp::Int->Bool\nsp x=span x 1 3\ne2::Int->Bool\ne2 _=z=:=1 where{z free}\ne3::Int->Bool\ne3 _=1=:=1\n");
        cost("((set sp x==[True])&(set e2 0==[True]&y==1))&(x=:=2&y=:=1)where{x,y free}", "True for 56 15 0 3");
        cost("((set sp x==[True])&(set e3 0==[True]&y==1))&(x=:=2&y=:=1)where{x,y free}", "True for 45 15 0 2");
    }

    /** When a DECISION is gone back to, a CAPSULE and the & ahead of it and behind it need what they needed then. */
    private static void betweenAnds() {
        TEXTS.behind("hd::[a]->a\nhd(x:_)=x\ni::Bool->Bool\ni x=x\nf::Int->Bool->Bool\nf x b=fcase x+0 of{1->b;0->True;2->b}\n"
                + "g::[Int]->[Int]->Bool\ng [] []=True\ng (x:xs) (y:ys)=x=:=(1?1?2)&(y>=0&>g xs ys)\n");
        none("(hd(set i(u&f x(u&(u?u))&v)))&g [x,y] [z,x] where{u,v,x,y,z free}", 11, 6);
        none("(hd(set i(u&f x(u&(u?u))&v?u&f x(u&(u&(u?u)))&v)))&g [x,y] [z,x] where{u,v,x,y,z free}", 23, 12);
    }

    private static void none(String query, int places, int waiting) {
        TEXTS.cost(query, places + " places, " + waiting + " waiting for 0 0 0 0");
    }
}
