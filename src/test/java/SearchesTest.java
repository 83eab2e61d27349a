/** Part IV: the WAYS of a SEARCH, and where LABOUR, PLACES and the LABOUR of all PATHS end it. */
public final class SearchesTest {
    private static final Checks CHECKS = new Checks();
    private static final int MOST = 10000;
    private static final String MODULE = "data N=Z|S N\nw::Int->Int\nw n=if n==0 then 0 else w(n-1)\nsq::Int->a->a\nsq 0 x=x\n";

    public static void main(String[] args) {
        exactLabour();
        labourOfSteps();
        labourOfEqualities();
        labourOfHeads();
        labourOfNarrowing();
        labourOfTries();
        labourOfCapsules();
        waysByHand();
        waysByDepth();
        bounds();
        chains();
        thousandPlaces();
        thousandDeep();
        labourOfAllPaths();
        labourUpToADecision();
        ends();
        CHECKS.end();
    }

    /** An Expr that comes to 0 for so much LABOUR, at least 16: w k costs 17 k + 16, each + costs 1. */
    private static String pad(int labour) {
        return "(w " + (labour - 16) / 17 + "+0".repeat((labour - 16) % 17) + ")";
    }

    /** Something that is begun when so much was LABOURED. */
    private static String at(int labour, String what) {
        return "sq" + pad(labour - 3) + "(" + what + ")";
    }

    private static void exactLabour() {
        Tongue t = Tongue.with(MODULE);
        for (int labour : new int[] {16, 17, 32, 33, 34, 100, 9998}) {
            t.first(pad(labour));
            CHECKS.same("LABOUR of a pad", t.tongue.count(9), labour + 1);
            t.first(at(labour + 3, "7"));
            CHECKS.same("LABOUR ahead", t.tongue.count(9), labour < 9000 ? labour + 4 : 0);
        }
    }

    /** What costs so much is done if the LABOUR comes to 10000 by it, and not if it would be above. */
    private static void edge(String module, String what, int cost, String done) {
        edge(module, "", what, "", 0, cost, done);
    }

    /** The same, behind and ahead of other text, and with LABOUR that is ahead of the pad. */
    private static void edge(String module, String before, String what, String behind, int ahead, int cost, String done) {
        Tongue t = Tongue.with(MODULE + module);
        for (int way = 0; way <= 2; way++) {
            for (int over = -1; over <= 1; over++) {
                t.askGood(way, 1000, before + at(MOST - cost + over - ahead, what) + behind);
                int answer = t.tongue.next();
                String got = answer == 1 ? t.show(5, 0) + " for " + t.tongue.count(9) : t.places();
                if (over == 0) {
                    CHECKS.same(what + " at 10000", got, done);
                } else if (over > 0) {
                    CHECKS.same(what + " at 10001", got, "1 places, 1 given up");
                } else {
                    CHECKS.holds(what + " at 9999", got.replace("9999", "10000").equals(done) || done.contains("given up"));
                }
            }
        }
    }

    private static void labourOfSteps() {
        String failed = "1 places, 1 failed";
        edge("", "1`div`0", 1, failed);
        edge("", "1`mod`0", 1, failed);
        edge("", "1=:=2", 1, failed);
        edge("", "not==not", 1, failed);
        edge("", "failed/=1", 1, failed);
        edge("", "span 1 2 3", 1, failed);
        edge("", "atMost[1][]0", 1, failed);
        edge("", "equalTo[1][1]0", 1, failed);
        edge("", "differ[1,1]", 1, failed);
        edge("f::Int->Int\nf x=failed\n", "f 1", 3, failed);
        edge("f::Int->Int\nf x=failed where{y=1}\n", "f 1", 9, failed);
        edge("f::Int->Int\nf x|failed=1\n", "f 1", 5, failed);
        edge("", "(\\x->failed)1", 2, failed);
        edge("f::Int->Int->Int\n", "(`f`0)1", 2, failed);
        edge("", "case 1 of{_->failed}", 2, failed);
        edge("", "fcase 1 of{_->failed}", 2, failed);
        // A Rhs of 1989 tokens; then == , whose False FAILS.
        edge("f::Int->Int\nf x=[" + "1,".repeat(990) + "1]==[]&>failed\n", "f 1", 1991, failed);
        edge("", "1+2", 2, "3 for 10000");
        edge("", "label[]", 2, "True for 10000");
    }

    private static void labourOfEqualities() {
        String failed = "1 places, 1 failed";
        edge("", "S failed==S failed", 2, failed);
        edge("", "(failed,1)==(failed,1)", 3, failed);
        edge("", "(failed,1,2)==(failed,1,2)", 4, failed);
        edge("", "S failed=:=S failed", 2, failed);
        edge("", "(failed,1,2)=:=(failed,1,2)", 4, failed);
        edge("", "", "x=:=S failed", " where{x free}", 0, 2, failed);
        edge("", "", "x=:=(failed,1,2)", " where{x free}", 0, 4, failed);
        edge("", "", "(failed,1)=:=x", " where{x free}", 0, 3, failed);
        // The STEP comes ahead of the BINDING that FAILS.
        edge("", "span x 5 6&", "x=:=1", " where{x free}", 1, 1, failed);
        edge("", "span x 5 6&span y 7 8&", "x=:=y", " where{x,y free}", 2, 1, failed);
        edge("", "differ[x,1]&", "x=:=1", " where{x free}", 1, 1, failed);
    }

    private static void labourOfHeads() {
        edge("", "7", 1, "7 for 10000");
        edge("", "(1,2)", 3, "(1,2) for 10000");
        edge("", "[failed]", 1, "1 places, 1 failed");
        edge("", "[1,failed]", 3, "1 places, 1 failed");
        edge("", "", "x", " where{x free}", 0, 2, "_1 for 10000");
        edge("", "", "x", " where{x,y,z free}", 0, 4, "_1 for 10000");
        edge("", "", "x", " where{y free;x=(y,y)}", 0, 4, "(_1,_1) for 10000");
        edge("", "not", 1, "<fun> for 10000");
    }

    private static void labourOfNarrowing() {
        String failed = "1 places, 1 failed";
        // Without a DECISION: 1, and 1 for each new VAR; then a DECISION below it is come to.
        edge("k::Int->Int\nk 3=4\n", "span x 5 6&>", "k x", " where{x free}", 4, 1, failed);
        edge("p::N->Int\np(S Z)=1\np(S(S _))=2\n", "", "p x", " where{x free}", 0, 2, "3 places, 2 given up");
        edge("p::(Int,Int)->Int\np(1,_)=1\np(2,_)=2\n", "", "p x", " where{x free}", 0, 3, "3 places, 2 given up");
        // With the ALTERNATIVE of one.
        Tongue t = Tongue.with(MODULE + "k::Int->Int\nk 3=4\nk 4=5\nz::D->Int\nz A=1\nz(B 1 1)=2\nz(B 2 2)=3\ndata D=A|B Int Int\n");
        String spanned = "span x 5 6&>";
        CHECKS.same("narrowed at 10000", t.first(spanned + at(MOST - 5, "k x") + " where{x free}"), "3 places, 2 failed");
        CHECKS.same("narrowed at 10001", t.first(spanned + at(MOST - 4, "k x") + " where{x free}"), "3 places, 2 given up");
        CHECKS.same("with VARS at 10000", t.first(at(MOST - 3, "z x") + " where{x free}"), "5 places, 3 given up");
        CHECKS.same("with VARS at 10001", t.first(at(MOST - 2, "z x") + " where{x free}"), "3 places, 2 given up");
        CHECKS.same("to a VALUE at 10000", t.first(at(MOST - 6, "z x") + " where{x free}"), "1");
        CHECKS.same("its LABOUR", t.tongue.count(9), 10000);
        CHECKS.same("to a VALUE at 10001", t.first(at(MOST - 5, "z x") + " where{x free}"), "5 places, 3 given up");
        // A DECISION costs nothing.
        CHECKS.same("a DECISION at 10000", t.first(at(MOST, "1?2")), "3 places, 2 given up");
    }

    private static void labourOfTries() {
        edge("", "span x 1 1&differ[x,1]&", "label[x]", " where{x free}", 2, 2, "1 places, 1 failed");
        edge("", "span x 1 3&equalTo[1][x]9&", "label[x]", " where{x free}", 2, 4, "1 places, 1 failed");
        edge("", "span x 1 1&", "label[x]", " where{x free}", 1, 4, "True for 10000");
        edge("", "span x 1 3&", "label[x]", " where{x free}", 1, 4, "4 places, 3 given up");
        Tongue t = Tongue.with(MODULE);
        CHECKS.same("too many tries", t.first("span x 1 20000&equalTo[1][x]0&label[x]where{x free}"), "1 places, 1 given up");
        CHECKS.same("9997 tries", t.first("span x 1 9997&equalTo[1][x]0&label[x]where{x free}"), "1 places, 1 failed");
        CHECKS.same("9998 tries", t.first("span x 1 9998&equalTo[1][x]0&label[x]where{x free}"), "1 places, 1 given up");
    }

    /** x is a HEAD already: sq x costs 3. */
    private static void labourOfCapsules() {
        String module = "o::Int->Int->Int\no 1 _=1\no _ 1=1\nhd::[a]->a\nhd(x:_)=x\nnil::[a]->Int\nnil[]=1\ni::a->a\ni x=x\ndd::Int->((Int,Int),(Int,Int))\ndd x=(p,p)where{p=(x,x)}\n";
        String failed = "1 places, 1 failed";
        // Two ALTERNATIVES that FAIL without a STEP.
        edge(module, "let{x=0}in sq x(", "hd(set o x x)", ")", 3, 2, failed);
        // A STEP, a HEAD, and the VALUE of one HEAD.
        edge(module, "let{x=0}in sq x(", "nil(set i x)", ")", 3, 5, failed);
        // A STEP, seven HEADS, and the VALUE of these seven.
        edge(module, "let{x=0}in sq x(", "nil(set dd x)", ")", 3, 31, failed);
        edge(module, "let{x=0}in sq x(", "set i x", ")", 3, 8, "[0] for 10000");
        // That it was begun in vain stays.
        edge(module, "", "nil(set i 0)", "", 0, 8, failed);
        edge(module, "", "set i(1`div`0)", "", 0, 4, failed);
        edge(module, "", "set i failed", "", 0, 3, failed);
        // A PART is come to behind its LABOUR; that GIVES UP in any case.
        Tongue t = Tongue.with(MODULE + module);
        CHECKS.same("a PART", t.first("set i not"), "1 places, 1 given up");
    }

    private static String placesOfValues(Tongue t, int way, int bound, String query) {
        t.askGood(way, bound, query);
        StringBuilder text = new StringBuilder();
        while (t.tongue.next() == 1) {
            text.append(t.show(5, 0)).append('@').append(t.tongue.count(3)).append(' ');
        }
        return text + t.places();
    }

    /** D (D (1, D (2, 3)), D (4, failed)), each D being a DECISION. */
    private static void waysByHand() {
        Tongue t = Tongue.with("");
        String query = "(1?(2?3))?(4?failed)";
        String end = "9 places, 4 values, 1 failed";
        String deep = "1@3 2@5 3@6 4@8 " + end;
        for (int bound : new int[] {1, 2, 3, 1000}) {
            CHECKS.same("deep", placesOfValues(t, 0, bound, query), deep);
        }
        CHECKS.same("windows of 1", placesOfValues(t, 1, 1, query), "1@4 4@6 2@8 3@9 " + end);
        CHECKS.same("windows of 2", placesOfValues(t, 1, 2, query), "1@4 2@6 3@7 4@8 " + end);
        CHECKS.same("windows of 3", placesOfValues(t, 1, 3, query), "1@3 4@6 2@8 3@9 " + end);
        CHECKS.same("windows of 4", placesOfValues(t, 1, 4, query), deep);
        CHECKS.same("windows of 1000", placesOfValues(t, 1, 1000, query), deep);
        CHECKS.same("bounded by 1", placesOfValues(t, 2, 1, query), "3 places, 2 cut");
        CHECKS.same("bounded by 2", placesOfValues(t, 2, 2, query), "1@3 4@6 7 places, 2 values, 1 failed, 1 cut");
        CHECKS.same("bounded by 3", placesOfValues(t, 2, 3, query), deep);
        CHECKS.same("bounded by 1000", placesOfValues(t, 2, 1000, query), deep);
        for (int way = 0; way <= 2; way++) {
            CHECKS.same("no DECISION", placesOfValues(t, way, 1, "7"), "7@1 1 places, 1 values");
            CHECKS.same("one DECISION", placesOfValues(t, way, 1, "7?8"), "7@2 8@3 3 places, 2 values");
            CHECKS.same("only a DECISION", placesOfValues(t, way, 1, "failed?failed"), "3 places, 2 failed");
        }
    }

    /** In windows VALUES come by DEPTH / b, those of one window as deep; bounded those up to the bound. */
    private static void waysByDepth() {
        String module = "u::Int->Int->Int\nu n d=if n>9 then n+100*d else(n+100*d)?(u(n+3)(d+1)?u(n+4)(d+1))\n";
        Tongue t = Tongue.with(module);
        java.util.List<int[]> values = new java.util.ArrayList<>();
        t.askGood(0, 1, "u(0-4)0");
        int most = 0;
        while (t.tongue.next() == 1) {
            int depth = t.tongue.count(11);
            most = Math.max(most, depth);
            values.add(new int[] {Integer.parseInt(t.show(5, 0)), depth});
        }
        CHECKS.same("VALUES", values.size(), 41);
        CHECKS.holds("at several depths", most > 5);
        for (int bound = 1; bound <= most + 1; bound++) {
            StringBuilder windows = new StringBuilder();
            StringBuilder bounded = new StringBuilder();
            for (int window = 0; window <= most / bound; window++) {
                for (int[] value : values) {
                    windows.append(value[1] / bound == window ? value[0] + "; " : "");
                }
            }
            for (int[] value : values) {
                bounded.append(value[1] <= bound ? value[0] + "; " : "");
            }
            t = Tongue.with(module);
            CHECKS.same("windows of " + bound, t.all(1, bound, "u(0-4)0"), windows + "end");
            CHECKS.same("bounded by " + bound, t.all(2, bound, "u(0-4)0"), bounded + "end");
            CHECKS.holds("CUT", (t.tongue.count(8) > 0) == (bound < most));
        }
    }

    /** A chain of DECISIONS, each of a VALUE and the next one: the i-th VALUE has the DEPTH i + 1, the last one that of the one ahead. */
    private static String chain(int decisions) {
        return "n::Int->Int\nn x=if x==" + decisions + " then x else x?n(x+1)\n";
    }

    private static void bounds() {
        Tongue t = Tongue.with(chain(30));
        for (int bound = 28; bound <= 31; bound++) {
            String all = t.all(2, bound, "n 0");
            StringBuilder due = new StringBuilder();
            for (int i = 0; i < Math.min(bound, 30); i++) {
                due.append(i).append("; ");
            }
            CHECKS.same("bounded by " + bound, all, due + (bound >= 30 ? "30; end" : "end"));
            CHECKS.same("CUT", t.tongue.count(8), bound >= 30 ? 0 : 1);
            CHECKS.same("PLACES", t.tongue.count(3), bound >= 30 ? 61 : 2 * bound + 1);
        }
    }

    /** In windows of b the DECISIONS of b depths come first, each with its VALUE if that is in the window. */
    private static void chains() {
        for (int bound : new int[] {1, 2, 3, 7, 39, 40, 41, 1000}) {
            Tongue t = Tongue.with(chain(40));
            t.askGood(1, bound, "n 0");
            StringBuilder got = new StringBuilder();
            StringBuilder due = new StringBuilder();
            for (int i = 0; i <= 40; i++) {
                int depth = Math.min(i + 1, 40);
                // All DECISIONS of windows up to that one of the VALUE, but those behind it in its own one.
                int window = depth / bound;
                int decisions = Math.min(40, Math.max(i + 1, window * bound));
                due.append(i).append('@').append(i + 1 + decisions).append(' ');
                t.tongue.next();
                got.append(t.show(5, 0)).append('@').append(t.tongue.count(3)).append(' ');
            }
            CHECKS.same("chain in windows of " + bound, got.toString(), due.toString());
            CHECKS.same("no more", t.tongue.next(), 0);
        }
    }

    /** Two functions of so many ALTERNATIVES; all but the last one of the second function FAIL. */
    private static String twoDecisions(int first, int second) {
        StringBuilder text = new StringBuilder("a::Int->Int\nb::Int->Int\n");
        for (int i = 1; i <= first; i++) {
            text.append("a ").append(i).append("=").append(i).append("\n");
        }
        for (int i = 1; i <= second; i++) {
            text.append("b ").append(i).append(i == second ? "=1\n" : "=failed\n");
        }
        return text.toString();
    }

    /** When 1000 PLACES have been come to, and there is another one, it is SPENT. */
    private static void thousandPlaces() {
        String query = "(a x,b y)where{x,y free}";
        for (int way = 0; way <= 2; way++) {
            for (int bound : new int[] {1, 2, 3, 1000}) {
                if (way == 2 && bound == 1) {
                    continue;
                }
                Tongue t = Tongue.with(twoDecisions(27, 36));
                String all = t.all(way, bound, query);
                CHECKS.same("1000 PLACES", t.places(), "1000 places, 27 values, 945 failed");
                CHECKS.holds("end", all.endsWith("; end"));
                CHECKS.same("0 again", t.tongue.next(), 0);
                t = Tongue.with(twoDecisions(25, 39));
                all = t.all(way, bound, query);
                CHECKS.same("1000 of 1001 PLACES", t.places(), "1000 places, 24 values, 950 failed");
                CHECKS.holds("spent", all.endsWith("; spent"));
                CHECKS.same("2 again", t.tongue.next(), 2);
                CHECKS.same("the latest VALUE stays", t.show(5, 0), "(24,1)");
                t = Tongue.with(twoDecisions(37, 26));
                all = t.all(way, bound, query);
                CHECKS.same("1000 PLACES", t.places(), "1000 places, 37 values, 925 failed");
                t = Tongue.with(twoDecisions(2, 30) + "c::Int\nc=1\n");
                t.all(way, bound, query);
                CHECKS.same("63 PLACES", t.places(), "63 places, 2 values, 58 failed");
            }
        }
        thousandthPlace();
    }

    /** A chain of 498 DECISIONS, each with a PATH that FAILS; then one more, of some ALTERNATIVES. */
    private static void thousandthPlace() {
        String zeros = "[" + "0,".repeat(497) + "0]";
        String[] ends = {"x->failed;x->failed;x->1", "x->failed;x->1;x->failed", "x->failed;x->1;x->2", "x->failed;x->1;x->2;x->3", "x->failed;x->1;x->2;x->failed",
            "x->failed;x->failed;x->failed;x->1", "x->failed;x->failed;x->failed"};
        String[] due = {"1; end of 1000", "1; end of 1000", "1; 2; end of 1000", "1; 2; spent of 1000", "1; 2; spent of 1000", "spent of 1000", "end of 1000"};
        for (int i = 0; i < ends.length; i++) {
            Tongue t = Tongue.with("m::[Int]->Int\nm[]=fcase 0 of{" + ends[i] + "}\nm(_:xs)=failed?m xs\n");
            for (int way = 0; way <= 2; way++) {
                String all = t.all(way, way == 1 ? 100 : 1000, "m" + zeros);
                CHECKS.same(ends[i], all + " of " + t.tongue.count(3), due[i]);
            }
        }
    }

    /** As many DECISIONS as PLACES allow, one behind the other. */
    private static void thousandDeep() {
        Tongue t = Tongue.with("m::[Int]->Int\nm[]=1\nm(_:xs)=m xs?failed\n");
        String zeros = "[" + "0,".repeat(998) + "0]";
        for (int[] search : new int[][] {{0, 1}, {1, 1000}, {2, 999}, {2, 1000}}) {
            CHECKS.same("999 DECISIONS", t.ask(search[0], search[1], "m" + zeros), 0);
            CHECKS.same("a VALUE", t.tongue.next(), 1);
            CHECKS.same("PLACES", t.places(), "1000 places, 1 values");
            CHECKS.same("DECISIONS", t.tongue.count(11), 999);
            CHECKS.same("the last one", t.tongue.decision(998), 0);
            CHECKS.holds("no more", t.lacksDecision(999));
            CHECKS.same("spent", t.tongue.next(), 2);
        }
        t = Tongue.with("n::Int\nn=n?1\n");
        for (int bound = 996; bound <= 1000; bound++) {
            // So many DECISIONS, one CUT, then VALUES.
            int values = Math.max(0, 1000 - bound - 1);
            CHECKS.same("bounded by " + bound, t.all(2, bound, "n"), "1; ".repeat(values) + "spent");
            CHECKS.same("PLACES", t.places(), "1000 places" + (values > 0 ? ", " + values + " values" : "") + (bound < 1000 ? ", 1 cut" : ""));
        }
        for (int way = 0; way <= 1; way++) {
            CHECKS.same("1000 DECISIONS", t.all(way, 1000, "n"), "spent");
            CHECKS.same("1000 DECISIONS", t.places(), "1000 places");
        }
        // In windows of 1 each DECISION is followed by the VALUE beside it.
        CHECKS.same("windows of 1", t.all(1, 1, "n"), "1; ".repeat(499) + "spent");
    }

    /** The rule of p for an INT: the ALTERNATIVE costs so much in all, up to the VALUE and the name x. */
    private static String rule(int i, int cost) {
        for (int zeros = 0; zeros <= 16; zeros++) {
            int rest = cost - 23 - 3 * zeros;
            if (rest >= 0 && rest % 17 == 0) {
                return "p " + i + "=w " + rest / 17 + "+0".repeat(zeros) + "\n";
            }
        }
        throw new IllegalStateException("no such cost");
    }

    private static String rules(int from, int to, int cost) {
        StringBuilder text = new StringBuilder();
        for (int i = from; i <= to; i++) {
            text.append(rule(i, cost));
        }
        return text.toString();
    }

    /** How the SEARCH of a Query ends, and its PLACES. */
    private static void endOf(String rules, String query, String due) {
        for (int[] search : new int[][] {{0, 1}, {1, 1}, {1, 2}, {1, 1000}, {2, 1}, {2, 1000}}) {
            Tongue t = Tongue.with(MODULE + "lp::Int->Int\nlp x=lp x\np::Int->Int\n" + rules);
            String all = t.all(search[0], search[1], query);
            CHECKS.same(query, all.substring(all.lastIndexOf(' ') + 1) + ", " + t.places(), due);
        }
    }

    private static void labourOfAllPaths() {
        Tongue t = Tongue.with(MODULE + "p::Int->Int\n" + rules(1, 1, MOST) + rules(2, 2, MOST + 1) + rules(3, 3, 90) + rules(4, 4, 91));
        t.askGood(0, 1, "p x where{x free}");
        t.tongue.next();
        CHECKS.same("the first ALTERNATIVE", t.tongue.count(9), MOST);
        t.tongue.next();
        CHECKS.same("the second one is GIVEN UP", t.tongue.count(9), 90);
        t.tongue.next();
        CHECKS.same("the fourth one", t.tongue.count(9), 91);
        String query = "p x where{x free}";
        // 300000 are not above 300000.
        endOf(rules(1, 30, MOST), query, "end, 31 places, 30 values");
        endOf(rules(1, 31, MOST), query, "end, 32 places, 31 values");
        endOf(rules(1, 32, MOST), query, "spent, 32 places, 31 values");
        endOf(rules(1, 29, MOST) + rules(30, 30, 9996) + "p 31=failed\n" + rules(32, 32, 50), query, "end, 33 places, 31 values, 1 failed");
        endOf(rules(1, 29, MOST) + rules(30, 30, 9997) + "p 31=failed\n" + rules(32, 32, 52), query, "spent, 32 places, 30 values, 1 failed");
        endOf(rules(1, 29, MOST) + rules(30, 30, 9997) + "p 31=failed\n", query, "end, 32 places, 30 values, 1 failed");
        // PATHS that are GIVEN UP count what was done: here 5 and 2498 times 4.
        StringBuilder loops = new StringBuilder();
        for (int i = 1; i <= 30; i++) {
            loops.append("p ").append(i).append("=lp 0\n");
        }
        endOf(loops + rules(31, 31, 90) + rules(32, 32, 50), query, "end, 33 places, 2 values, 30 given up");
        endOf(loops + rules(31, 31, 91) + rules(32, 32, 50), query, "spent, 32 places, 1 values, 30 given up");
        endOf(loops + rules(31, 31, 91), query, "end, 32 places, 1 values, 30 given up");
        // PATHS that WAIT count as well, here 11.
        endOf(rules(1, 29, MOST) + rules(30, 30, 9989) + "p 31=y+1 where{y free}\n" + rules(32, 32, 50), query, "end, 33 places, 31 values, 1 waiting");
        endOf(rules(1, 29, MOST) + rules(30, 30, 9990) + "p 31=y+1 where{y free}\n" + rules(32, 32, 50), query, "spent, 32 places, 30 values, 1 waiting");
    }

    /** What lies ahead of a DECISION counts once. */
    private static void labourUpToADecision() {
        String query = at(5000, "p x") + "where{x free}";
        endOf(rules(1, 59, 5000), query, "end, 60 places, 59 values");
        endOf(rules(1, 60, 5000), query, "end, 61 places, 60 values");
        endOf(rules(1, 61, 5000), query, "spent, 61 places, 60 values");
        endOf(rules(1, 58, 5000) + rules(59, 59, 4999) + rules(60, 61, 5000), query, "spent, 61 places, 60 values");
        // A DECISION that is CUT counts what leads to it.
        Tongue t = Tongue.with(MODULE + "p::Int->Int\n" + rules(1, 59, 5000) + "p 60=1?2\np 61=3\n");
        t.all(2, 1, query);
        CHECKS.same("CUT", t.places(), "61 places, 59 values, 1 cut");
    }

    private static void ends() {
        Tongue t = Tongue.with(MODULE);
        for (int way = 0; way <= 2; way++) {
            for (String query : new String[] {"failed", "x+1 where{x free}", "failed?failed", "set not x where{x free}"}) {
                CHECKS.same("none", t.all(way, 3, query), "end");
                CHECKS.same("none again", t.tongue.next(), 0);
                CHECKS.same("no VALUE", t.tongue.count(9), 0);
                CHECKS.same("no VALUE", t.show(5, 0), null);
                CHECKS.holds("no DECISION", t.lacksDecision(0));
            }
            CHECKS.same("one", t.all(way, 3, "1"), "1; end");
            CHECKS.same("none again", t.tongue.next(), 0);
            CHECKS.same("the latest VALUE stays", t.show(5, 0), "1");
            CHECKS.same("its LABOUR, too", t.tongue.count(9), 1);
        }
    }
}
