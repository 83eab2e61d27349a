/** Part I, FAULTS 5: each COUNT at the most that is good, and at one more. */
public final class CountsTest {
    private static final String AT = Texts.AT;
    private static final Checks CHECKS = new Checks();
    private static final Texts TEXTS = new Texts(CHECKS);

    public static void main(String[] args) {
        typesTake();
        constructorsTake();
        patternsOfRules();
        behindSet();
        whatFunctionsTake();
        namesOfData();
        tokensOfTypes();
        tokensOfConstructors();
        tokensOfRules();
        tokensOfQueries();
        rulesOfFunctions();
        sixteen();
        sixty();
        leastPlace();
        CHECKS.end();
    }

    private static void typesTake() {
        TEXTS.goodModule("f::Int");
        TEXTS.faultOfModule(5, "f::" + AT + "Int a");
        TEXTS.faultOfModule(5, "f::" + AT + "Int Int");
        TEXTS.faultOfModule(5, "f::" + AT + "Bool a");
        String data = "data T=A\ndata U a=B\ndata V a b=C\n";
        TEXTS.goodModule(data + "f::T->U a->V a b");
        TEXTS.goodModule(data + "f::U T->V T(U a)");
        TEXTS.faultOfModule(5, data + "f::" + AT + "T a");
        TEXTS.faultOfModule(5, data + "f::" + AT + "U");
        TEXTS.faultOfModule(5, data + "f::" + AT + "U a b");
        TEXTS.faultOfModule(5, data + "f::" + AT + "V");
        TEXTS.faultOfModule(5, data + "f::" + AT + "V a");
        TEXTS.faultOfModule(5, data + "f::" + AT + "V a b c");
        TEXTS.faultOfModule(5, data + "f::V " + AT + "U T");
        TEXTS.faultOfModule(5, data + "f::[" + AT + "U]");
        TEXTS.faultOfModule(5, data + "data W=D(" + AT + "U)");
        TEXTS.faultOfModule(5, data + "data W=D " + AT + "U T");
        TEXTS.faultOfModule(5, "data W=D(" + AT + "W T)\n" + data);
        String eight = "data E a b c d e f g h=E\n";
        TEXTS.faultOfModule(5, eight + "f::" + AT + "E a b c d e f g");
        TEXTS.goodModule(eight + "f::E a b c d e f g h");
        TEXTS.faultOfModule(5, eight + "f::" + AT + "E a b c d e f g h i");
    }

    private static void constructorsTake() {
        TEXTS.behind("data T=A|B Int|C Int Int");
        TEXTS.goodQuery("case A of{A->1;B _->2;C _ _->3}");
        TEXTS.faultOfQuery(5, "case A of{" + AT + "A _->1}");
        TEXTS.faultOfQuery(5, "case A of{" + AT + "B->1}");
        TEXTS.faultOfQuery(5, "case A of{" + AT + "B _ _->1}");
        TEXTS.faultOfQuery(5, "case A of{" + AT + "C _->1}");
        TEXTS.faultOfQuery(5, "case A of{" + AT + "C _ _ _->1}");
        TEXTS.faultOfQuery(5, "case[A]of{A:[" + AT + "B]->1}");
        TEXTS.faultOfQuery(5, "case True of{" + AT + "True _->1}");
        // In an Expr a constructor may have fewer.
        TEXTS.goodQuery("[C 1,C 2]");
        TEXTS.goodQuery("C");
        TEXTS.behind("");
        TEXTS.faultOfModule(5, "data T=A|B Int\nf::T->Int\nf " + AT + "B=1");
        TEXTS.goodModule("data T=A|B Int\nf::T->Int\nf(B _)=1\nf A=2");
    }

    private static void patternsOfRules() {
        TEXTS.goodModule("f::Int->Int->Int\nf x y=1\nf x z=2");
        TEXTS.faultOfModule(5, "f::Int->Int->Int\nf x y=1\n" + AT + "f x=2");
        TEXTS.faultOfModule(5, "f::Int->Int->Int\nf x y=1\n" + AT + "f=2");
        TEXTS.faultOfModule(5, "f::Int->Int->Int->Int\nf x y=failed\n" + AT + "f x y z=2");
        TEXTS.faultOfModule(5, "f::Int->Int->Int\nf x=failed\nx" + AT + "`f`y=2");
        TEXTS.goodModule("f::Int->Int->Int\nf=failed");
        TEXTS.goodModule("f::Int->Int->Int\nf x=failed");
        TEXTS.faultOfModule(5, "f::Int->Int->Int\n" + AT + "f x y z=1");
        TEXTS.faultOfModule(5, "f::Int\n" + AT + "f x=1");
        TEXTS.goodModule("f::Int\nf=1");
        // Arrows count outside of all brackets.
        TEXTS.faultOfModule(5, "f::(Int->Int)\n" + AT + "f x=1");
        TEXTS.goodModule("f::(Int->Int)->Int\nf x=1");
        TEXTS.faultOfModule(5, "f::(Int->Int)->Int\n" + AT + "f x y=1");
        TEXTS.faultOfModule(5, "f::Int->(Int->Int)\n" + AT + "f x y=1");
        TEXTS.faultOfModule(5, "f::[Int->Int]\n" + AT + "f x=1");
        TEXTS.faultOfModule(5, "f::(Int,Int->Int)\n" + AT + "f x=1");
        TEXTS.goodModule("(%)::Int->Int->Int\nx%y=1");
        TEXTS.faultOfModule(5, "(%)::Int->[Int->Int]\nx" + AT + "%y=1");
    }

    private static void behindSet() {
        TEXTS.behind("two::Int->Int->Int->Int\ntwo x y=failed\nnone::Int\nnone=1\nopen::Int->Int->Int\nins::Int->(Int->Int)");
        TEXTS.goodQuery("set two 1 2");
        TEXTS.faultOfQuery(5, AT + "set two 1");
        TEXTS.faultOfQuery(5, AT + "set two 1 2 3");
        TEXTS.faultOfQuery(5, "[1]==" + AT + "set two");
        TEXTS.goodQuery("set none");
        TEXTS.faultOfQuery(5, AT + "set none 1");
        TEXTS.goodQuery("set open 1 2");
        TEXTS.faultOfQuery(5, AT + "set open 1");
        TEXTS.faultOfQuery(5, AT + "set open 1 2 3");
        TEXTS.goodQuery("set ins 1");
        TEXTS.faultOfQuery(5, AT + "set ins 1 2");
        TEXTS.goodQuery("set div 1 2");
        TEXTS.faultOfQuery(5, AT + "set div 1");
        TEXTS.goodQuery("set span 1 2 3");
        TEXTS.faultOfQuery(5, AT + "set span 1 2");
        TEXTS.goodQuery("set failed");
        TEXTS.faultOfQuery(5, AT + "set failed 1");
        TEXTS.behind("");
    }

    /** A signature of so many arrows. */
    private static String arrows(int count) {
        return "f::" + "Int->".repeat(count) + "Int\n";
    }

    private static String names(int count) {
        StringBuilder text = new StringBuilder();
        for (int i = 0; i < count; i++) {
            text.append(" v").append(i);
        }
        return text.toString();
    }

    private static void whatFunctionsTake() {
        for (int count : new int[] {0, 1, 2, 15, 16, 17, 18, 29}) {
            Tongue t = Tongue.with(arrows(count));
            CHECKS.same("a function without rules takes, of arrows " + count, t.tongue.fact(28, 0), Math.min(count, 16));
        }
        Tongue t = Tongue.with(arrows(17) + "g::Int->(Int->Int)\nh::Int->Int->Int\nh x=failed\ni::Int->Int\ni=failed\nj::([Int]->Int)\n");
        int[] takes = {16, 1, 1, 0, 0};
        for (int f = 0; f < takes.length; f++) {
            CHECKS.same("takes", t.tongue.fact(28 + f, 0), takes[f]);
        }
        CHECKS.same("16 patterns", Tongue.with(arrows(17) + "f" + names(16) + "=failed").tongue.fact(28, 0), 16);
        TEXTS.behind(arrows(17));
        TEXTS.goodQuery("set f" + " 1".repeat(16));
        TEXTS.faultOfQuery(5, AT + "set f" + " 1".repeat(17));
        TEXTS.faultOfQuery(5, AT + "set f" + " 1".repeat(15));
        TEXTS.behind("");
    }

    private static void namesOfData() {
        TEXTS.goodModule("data T" + names(7) + "=A");
        TEXTS.goodModule("data T" + names(8) + "=A");
        TEXTS.faultOfModule(5, "data " + AT + "T" + names(9) + "=A");
        TEXTS.faultOfModule(5, "data U=B\ndata " + AT + "T" + names(20) + "=A v19");
    }

    private static void tokensOfTypes() {
        // 29 times Int-> are 58 tokens, and [ a ] are 3.
        TEXTS.goodModule("f::" + "Int->".repeat(29) + "a");
        TEXTS.goodModule("f::" + "Int->".repeat(29) + "()");
        TEXTS.faultOfModule(5, AT + "f::" + "Int->".repeat(29) + "[a]");
        TEXTS.faultOfModule(5, AT + "f::" + "Int->".repeat(30) + "a");
        TEXTS.faultOfModule(5, "(" + AT + "%)::" + "Int->".repeat(30) + "a");
        TEXTS.goodModule("(%)::" + "Int->".repeat(29) + "()");
        String wide = "data U a b c d e f g h=B\n";
        TEXTS.goodModule(wide + "f::" + "U a b c d e f g h->".repeat(5) + "U a b c d e f g h");
        TEXTS.goodModule(wide + "f::" + "U a b c d e f g h->".repeat(5) + "Bool->[Int]->[()]");
        TEXTS.faultOfModule(5, wide + AT + "f::" + "U a b c d e f g h->".repeat(5) + "Bool->[Int]->[[a]]");
    }

    private static void tokensOfConstructors() {
        // The Con's BIG counts: with it A and 14 times (a) of 3, and as many as are still told.
        TEXTS.goodModule("data T a=A" + "(a)".repeat(14) + "(a->a->a->a->a->a->a->a)");
        TEXTS.goodModule("data T a=A" + "(a)".repeat(14) + "[[a->a->a->a->a->a]]()");
        TEXTS.goodModule("data T a=A" + "(a->a)".repeat(11) + "a a a a");
        TEXTS.faultOfModule(5, "data T a=" + AT + "A" + "(a->a)".repeat(11) + "a a a a a");
        TEXTS.faultOfModule(5, "data T a=" + AT + "A(" + "a->".repeat(29) + "a)");
        TEXTS.goodModule("data T a=A(" + "a->".repeat(28) + "a)");
        TEXTS.faultOfModule(5, "data T a=" + AT + "A(" + "a->".repeat(28) + "a)a");
        TEXTS.faultOfModule(5, "data T a=B|" + AT + "A(" + "a->".repeat(29) + "a)|C");
        TEXTS.goodModule("data T a=" + ("A(" + "a->".repeat(28) + "a)|") + "B(" + "a->".repeat(28) + "a)");
    }

    /** A list of so many INTS: so many tokens twice, and one. */
    private static String list(int ints) {
        return "[" + ints(ints) + "]";
    }

    /** Of a Lhs and Rhs: these Rhs have 1998, and each pattern is one more. */
    private static void tokensOfRules() {
        String[] sides = {"=" + list(998), "|True=" + list(997), "=x where{x=" + list(995) + "}"};
        String one = "f::Int->[Int]\n";
        for (String side : sides) {
            TEXTS.goodModule("f::[Int]\n" + "f" + side);
            TEXTS.goodModule(one + "f _" + side);
            TEXTS.goodModule(one + "f _" + side + "\n\n" + "f _" + side + "\n");
            TEXTS.faultOfModule(5, "f::Int->Int->[Int]\n" + AT + "f _ _" + side);
            TEXTS.faultOfModule(5, one + "f _" + side + "\n" + AT + "f(_)" + side);
        }
        TEXTS.goodModule("(%)::Int->Int->[Int]\n_%_=" + list(997));
        TEXTS.faultOfModule(5, "(%)::Int->Int->[Int]\n" + AT + "_%_=" + list(998));
        TEXTS.goodModule("f::Int->Int->[Int]\n_`f`_=" + list(996));
        TEXTS.faultOfModule(5, "f::Int->Int->[Int]\n" + AT + "_`f`_=" + list(997));
    }

    private static void tokensOfQueries() {
        TEXTS.goodQuery(list(999));
        TEXTS.goodQuery(list(998) + "==[]");
        TEXTS.faultOfQuery(5, AT + list(1000));
        TEXTS.faultOfQuery(5, " " + AT + "(" + list(998) + ")==[]");
        TEXTS.goodQuery("x where{x=failed" + list(996) + "}");
        TEXTS.faultOfQuery(5, AT + "failed x where{x=failed" + list(996) + "}");
        CHECKS.same("of 1999 tokens", Tongue.with("").first("failed" + "()".repeat(999)), "1 places, 1 failed");
        CHECKS.same("of 2000 tokens", Tongue.with("").first("failed" + "()".repeat(999) + " 1"), "1 places, 1 failed");
        TEXTS.faultOfQuery(5, "\n\n" + AT + "failed" + "()".repeat(999) + " 1 1");
    }

    private static void rulesOfFunctions() {
        String signature = "f::Int->Int\n";
        CHECKS.same("299 rules", Tongue.with(signature + "f 1=1\n".repeat(299)).tongue.fact(28, 1), 299);
        CHECKS.same("300 rules", Tongue.with(signature + "f 1=1\n".repeat(300)).tongue.fact(28, 1), 300);
        TEXTS.faultOfModule(5, signature + "f 1=1\n".repeat(300) + AT + "f 1=1");
        TEXTS.faultOfModule(5, signature + "f 1=1\n".repeat(300) + AT + "f 1=1\nf 1=1");
        TEXTS.goodModule(signature + "g::Int->Int\n" + "f 1=1\n".repeat(300) + "g 1=1\n".repeat(300));
        TEXTS.faultOfModule(5, "(%)::Int->Int->Int\n" + "1%1=1\n".repeat(300) + "1" + AT + "%1=1");
        TEXTS.goodModule("(%)::Int->Int->Int\n" + "1%1=1\n".repeat(300));
    }

    private static void sixteen() {
        TEXTS.goodModule("data T a=A" + " a".repeat(15));
        TEXTS.goodModule("data T a=A" + " a".repeat(16));
        TEXTS.faultOfModule(5, "data T a=" + AT + "A" + " a".repeat(17));
        TEXTS.faultOfModule(5, "data T a=B|" + AT + "A" + " a".repeat(17));
        TEXTS.goodModule(arrows(16) + "f" + names(16) + "=1");
        TEXTS.faultOfModule(5, arrows(17) + AT + "f" + names(17) + "=1");
        TEXTS.goodModule(arrows(17) + "f" + names(16) + "=failed");
        TEXTS.goodModule(arrows(17) + "f" + " _".repeat(15) + "=failed");
        TEXTS.goodQuery("\\" + names(15).substring(1) + "->1");
        TEXTS.goodQuery("\\" + names(16).substring(1) + "->1");
        TEXTS.faultOfQuery(5, AT + "\\" + names(17).substring(1) + "->1");
        TEXTS.faultOfQuery(5, AT + "\\_" + " _".repeat(16) + "->1");
        TEXTS.goodQuery("\\_" + " _".repeat(15) + "->1");
        TEXTS.goodQuery("\\_" + " _".repeat(15) + "-> \\_" + " _".repeat(15) + "->1");
        TEXTS.faultOfQuery(5, "[\\x->1," + AT + "\\_" + " _".repeat(16) + "->1]");
    }

    /** So many INTS, each behind a comma. */
    private static String ints(int count) {
        return ",1".repeat(count).substring(1);
    }

    private static void sixty() {
        String lists = "f::[Int]->[Int]->Int\n(%)::[Int]->[Int]->Int\n";
        // A list of n INTS counts n, n and 1.
        TEXTS.goodModule(lists + "f[" + ints(29) + "]_=1");
        TEXTS.goodModule(lists + "f[" + ints(29) + "][]=1");
        TEXTS.faultOfModule(5, lists + AT + "f[" + ints(29) + "](1:_)=1");
        TEXTS.faultOfModule(5, lists + AT + "f[" + ints(30) + "]_=1");
        TEXTS.goodModule(lists + "f[" + ints(28) + "](1:[])=1");
        TEXTS.faultOfModule(5, lists + AT + "f[" + ints(28) + "][1,_]=1");
        TEXTS.goodModule(lists + "f[" + "_,".repeat(57) + "_](x:_)=1");
        TEXTS.faultOfModule(5, lists + AT + "f[" + "_,".repeat(58) + "_][]=1");
        TEXTS.goodModule(lists + "f(" + "1:".repeat(30) + "_)_=1");
        TEXTS.faultOfModule(5, lists + AT + "f(" + "1:".repeat(30) + "_)[]=1");
        TEXTS.faultOfModule(5, lists + AT + "[" + ints(29) + "]%[1]=1");
        TEXTS.goodModule(lists + "[" + ints(29) + "]%[]=1");
        TEXTS.faultOfModule(5, lists + AT + "x@[" + ints(29) + "]%y@[z]=1");
        // () and tuples count 1, so do constructors and INTS.
        String many = "f::a->Int\n";
        TEXTS.goodModule("f::[()]->Int\nf[" + "(),".repeat(28) + "()]=1");
        TEXTS.faultOfModule(5, "f::[()]->Int\n" + AT + "f[" + "(),".repeat(29) + "()]=1");
        TEXTS.goodModule("f::[(a,a)]->Int\nf(" + "(_,_):".repeat(30) + "_)=1");
        TEXTS.faultOfModule(5, "f::[(a,a,a)]->Int\n" + AT + "f(" + "(_,_,_):".repeat(30) + "[])=1");
        TEXTS.goodModule("f::[Bool]->Int\nf(" + "True:".repeat(30) + "_)=1");
        TEXTS.faultOfModule(5, "f::[Bool]->Int\n" + AT + "f(" + "True:".repeat(30) + "[])=1");
        TEXTS.goodModule(many + "f" + "(".repeat(29) + "x" + ")".repeat(29) + "=1");
        // Each Pat of an Alt counts for itself, and so does each Lhs.
        TEXTS.goodQuery("case failed of{[" + ints(29) + "]->1;1:[" + ints(28) + "]->2}");
        TEXTS.faultOfQuery(5, "case failed of{" + AT + "1:[" + ints(29) + "]->2}");
        TEXTS.faultOfQuery(5, "case failed of{_->1;" + AT + "[" + ints(30) + "]->2}");
        TEXTS.faultOfQuery(5, "fcase failed of{" + AT + "x@[" + ints(30) + "]->2}");
        TEXTS.goodQuery("fcase(failed,failed)of{([" + ints(29) + "],_)->2}");
        TEXTS.faultOfQuery(5, "fcase(failed,failed)of{" + AT + "([" + ints(29) + "],1)->2}");
        TEXTS.goodModule(lists + ("f[" + ints(29) + "][]=case[1]of{[" + ints(29) + "]->1}\n").repeat(3));
    }

    /** Of one kind the least place counts, wherever it is judged. */
    private static void leastPlace() {
        TEXTS.faultOfModule(5, "data " + AT + "T" + names(9) + "=A\nf::Int Int");
        TEXTS.faultOfModule(5, "f::" + AT + "Int Int\ndata T" + names(9) + "=A");
        TEXTS.faultOfModule(5, "f::Int->Int\nf x=case True of{" + AT + "True _->1}\nf=1");
        TEXTS.faultOfModule(5, "f::Int->Int\nf x=1\n" + AT + "f=case True of{True _->1}");
        TEXTS.faultOfModule(5, "f::Int->Int\n" + AT + "f[" + ints(30) + "]True _=1");
        TEXTS.faultOfQuery(5, "[" + AT + "set not,set not]");
    }
}
