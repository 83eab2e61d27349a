/** Part III, SPANS: numbers within spans, what is KEPT about them, and label. */
public final class SpansTest {
    private static final Checks CHECKS = new Checks();
    private static final Texts TEXTS = new Texts(CHECKS);

    public static void main(String[] args) {
        spansOfInts();
        spansOfVars();
        spansOfTwoVars();
        needs();
        farSpans();
        sums();
        differences();
        lengths();
        cells();
        cellsThatAreNeeded();
        eachCellCounts();
        lookedAt();
        sixtyKept();
        labels();
        labelsAndKept();
        labelsWait();
        eightVars();
        twoHundredWays();
        CHECKS.end();
    }

    private static void cost(String query, String due) {
        TEXTS.cost(query, due);
    }

    private static void none(String query, String place) {
        TEXTS.cost(query, "1 places, 1 " + place + " for 0 0 0 0");
    }

    private static void spansOfInts() {
        cost("span 1 1 3", "True for 2 1 0 0");
        cost("span 2 1 3", "True for 2 1 0 0");
        cost("span 3 1 3", "True for 2 1 0 0");
        none("span 0 1 3", "failed");
        none("span 4 1 3", "failed");
        cost("span 5 5 5", "True for 2 1 0 0");
        none("span 4 5 5", "failed");
        none("span 6 5 5", "failed");
        none("span 3 4 2", "failed");
        cost("span(0-1)(0-1)0", "True for 4 3 0 0");
    }

    private static void spansOfVars() {
        cost("span x 1 3 where{x free}", "True for 3 1 0 0");
        cost("span x 2 2 where{x free}", "True for 3 1 0 0");
        none("span x 3 2 where{x free}", "failed");
        for (int i = 0; i <= 4; i++) {
            boolean in = i >= 1 && i <= 3;
            String equation = "x=:=" + i + " where{x free}";
            if (in) {
                cost("span x 1 3&" + equation, "True for 4 2 0 1");
                cost("x=:=" + i + "&span x 1 3 where{x free}", "True for 4 2 0 1");
            } else {
                none("span x 1 3&" + equation, "failed");
                none("x=:=" + i + "&span x 1 3 where{x free}", "failed");
            }
        }
        // What both have in common.
        for (int i = 2; i <= 6; i++) {
            String query = "span x 1 5&span x 3 7&x=:=" + i + " where{x free}";
            if (i >= 3 && i <= 5) {
                cost(query, "True for 5 3 0 1");
            } else {
                none(query, "failed");
            }
        }
        cost("span x 1 3&span x 3 5 where{x free}", "True for 4 2 0 0");
        none("span x 1 3&span x 4 5 where{x free}", "failed");
        none("span x 4 5&span x 1 3 where{x free}", "failed");
        cost("span x 1 9&span x 2 3 where{x free}", "True for 4 2 0 0");
        // By a BRANCH, too.
        TEXTS.behind("k::Int->Int\nk 3=0\nk 4=0\n");
        TEXTS.all("span x 1 3&>k x where{x free}", "0 x=3; end");
        TEXTS.all("span x 4 9&>k x where{x free}", "0 x=4; end");
        TEXTS.all("span x 5 9&>k x where{x free}", "end");
        TEXTS.behind("");
    }

    private static void spansOfTwoVars() {
        for (int i = 0; i <= 6; i++) {
            for (String order : new String[] {"x=:=y", "y=:=x"}) {
                for (String name : new String[] {"x", "y"}) {
                    String end = order + "&" + name + "=:=" + i + " where{x,y free}";
                    String both = "span x 1 4&span y 3 6&" + end;
                    String one = "span x 1 4&" + end;
                    boolean inOne = i >= 1 && i <= 4;
                    if (inOne && i >= 3) {
                        cost(both, "True for 7 4 0 2");
                    } else {
                        none(both, "failed");
                    }
                    if (inOne) {
                        cost(one, "True for 6 3 0 2");
                    } else {
                        none(one, "failed");
                    }
                }
            }
        }
        cost("span x 1 3&span y 3 5&x=:=y where{x,y free}", "True for 6 3 0 1");
        none("span x 1 3&span y 4 5&x=:=y where{x,y free}", "failed");
        none("span x 1 3&span y 4 5&y=:=x where{x,y free}", "failed");
        // A BINDING that FAILS comes behind the STEP; the VAR with the SPAN is the one that is BOUND.
        TEXTS.all("span x 1 3&x=:=y&label[y]where{x,y free}", "True x=1,y=1; True x=2,y=2; True x=3,y=3; end");
        TEXTS.all("span y 1 2&x=:=y&label[x]where{x,y free}", "True x=1,y=1; True x=2,y=2; end");
    }

    /** l and h, then x are needed. */
    private static void needs() {
        none("span failed y 1 where{y free}", "waiting");
        none("span failed 1 y where{y free}", "waiting");
        none("span failed failed y where{y free}", "failed");
        none("span y failed z where{y,z free}", "failed");
        none("span y z failed where{y,z free}", "waiting");
        none("span failed 1 3", "failed");
        none("span failed 3 1", "failed");
    }

    private static void farSpans() {
        String numbers = "where{a=65536*65536;least=a*(a`div`2);most=least-1;x free}";
        TEXTS.all("(span x least most&x=:=least)" + numbers, "True x=-9223372036854775808; end");
        TEXTS.all("(span x least most&x=:=most)" + numbers, "True x=9223372036854775807; end");
        TEXTS.all("(span x most most&label[x])" + numbers, "True x=9223372036854775807; end");
        TEXTS.all("(span x least least&label[x])" + numbers, "True x=-9223372036854775808; end");
        TEXTS.all("(span x(most-1)most&label[x])" + numbers, "True x=9223372036854775806; True x=9223372036854775807; end");
        TEXTS.all("span least least most&>span most least most " + numbers, "True x=_1; end");
        none("span x most least " + numbers, "failed");
        none("(span x(least+1)most&x=:=least)" + numbers, "failed");
        none("(span x least(most-1)&x=:=most)" + numbers, "failed");
    }

    private static void sums() {
        cost("atMost[1,2][3,4]12", "True for 2 1 0 0");
        cost("atMost[1,2][3,4]11", "True for 2 1 0 0");
        none("atMost[1,2][3,4]10", "failed");
        none("equalTo[1,2][3,4]12", "failed");
        cost("equalTo[1,2][3,4]11", "True for 2 1 0 0");
        none("equalTo[1,2][3,4]10", "failed");
        cost("atMost[][]0", "True for 2 1 0 0");
        none("atMost[][](0-1)", "failed");
        cost("equalTo[][]0", "True for 2 1 0 0");
        none("equalTo[][]1", "failed");
        TEXTS.all("equalTo[0-2,3][5,4]2", "True; end");
        TEXTS.all("atMost[0][9]0", "True; end");
        // The sum goes round.
        TEXTS.all("equalTo[a][a]0 where{a=65536*65536}", "True; end");
        TEXTS.all("atMost[a,a][b,b]0 where{a=65536*65536;b=a`div`4}", "True; end");
        TEXTS.all("atMost[a][b](0-1)where{a=65536*65536;b=a`div`2}", "True; end");
    }

    private static void differences() {
        cost("differ[]", "True for 2 1 0 0");
        cost("differ[1]", "True for 2 1 0 0");
        cost("differ[1,2]", "True for 2 1 0 0");
        none("differ[1,1]", "failed");
        none("differ[1,2,1]", "failed");
        none("differ[2,1,1]", "failed");
        cost("differ[1,2,3]", "True for 2 1 0 0");
        TEXTS.all("differ[a,0,0-a]where{a=65536*65536}", "True; end");
        none("differ[a,a*a,0]where{a=65536*65536}", "failed");
    }

    private static void lengths() {
        for (String fun : new String[] {"atMost", "equalTo"}) {
            none(fun + "[1][]0", "failed");
            none(fun + "[][1]0", "failed");
            none(fun + "[0,0][0]0", "failed");
            cost(fun + "[0,0][0,0]0", "True for 2 1 0 0");
            none(fun + "[1][x,y]9 where{x,y free}", "failed");
            // They FAIL by the STEP, when k is there, too.
            none(fun + "[1][]x where{x free}", "waiting");
            none(fun + "[1][]failed", "failed");
        }
    }

    /** So many cells with 0, and a rest behind them; a Row has 16 Ops at the most. */
    private static String zeros(int count, String rest) {
        String text = rest;
        for (int i = 0; i < count; i++) {
            text = i % 15 == 0 ? "0:(" + text + ")" : "0:" + text;
        }
        return "(" + text + ")";
    }

    private static String ints(int count) {
        StringBuilder text = new StringBuilder("[");
        for (int i = 1; i <= count; i++) {
            text.append(i == 1 ? "" : ",").append(i);
        }
        return text.append("]").toString();
    }

    /** A 33rd cell is GIVEN UP as soon as it is there. */
    private static void cells() {
        cost("differ" + ints(31), "True for 2 1 0 0");
        cost("differ" + ints(32), "True for 2 1 0 0");
        none("differ" + ints(33), "given up");
        none("differ" + ints(34), "given up");
        none("label" + ints(33), "given up");
        cost("label" + ints(32), "True for 2 1 0 0");
        for (String fun : new String[] {"atMost", "equalTo"}) {
            cost(fun + ints(32) + "[" + "0,".repeat(31) + "0]0", "True for 2 1 0 0");
            none(fun + ints(33) + "[" + "0,".repeat(31) + "0]0", "given up");
            none(fun + ints(32) + "[" + "0,".repeat(32) + "0]0", "given up");
            none(fun + ints(33) + "failed 0", "given up");
            none(fun + ints(31) + ints(32) + "0", "failed");
            none(fun + ints(32) + ints(33) + "0", "given up");
        }
    }

    private static void cellsThatAreNeeded() {
        String[] ahead = {"differ", "label", "atMost", "atMost[1]", "equalTo", "equalTo[1]"};
        for (String fun : ahead) {
            String behind = fun.endsWith("]") ? " 0 where{x,y free}" : fun.length() > 6 || fun.equals("atMost") ? "[1]0 where{x,y free}" : " where{x,y free}";
            // Cell by cell, with what is in it directly behind each.
            none(fun + "(failed:x)" + behind, "failed");
            none(fun + "(0:x)" + behind, "waiting");
            none(fun + " x" + behind, "waiting");
            none(fun + " failed" + behind, "failed");
            none(fun + "(0:failed:x)" + behind, "failed");
            none(fun + "(y+1:failed)" + behind, "waiting");
            // Of the 33rd cell nothing is needed but that it is there; behind the 32nd it may be an end.
            none(fun + zeros(32, "failed:x") + behind, "given up");
            none(fun + zeros(32, "failed") + behind, "failed");
            none(fun + zeros(32, "x") + behind, "waiting");
            none(fun + zeros(31, "failed:failed") + behind, "failed");
        }
        // The INTS of cs are needed as INTS, those of xs may be FREE.
        none("atMost[x][1]5 where{x free}", "waiting");
        cost("atMost[1][x]5 where{x free}", "True for 3 1 0 0");
        none("equalTo[1][failed]x where{x free}", "failed");
        none("equalTo[1][1]x where{x free}", "waiting");
        none("equalTo[1][x]y where{x,y free}", "waiting");
        cost("differ[x,x]where{x free}", "True for 3 1 0 0");
        TEXTS.all("equalTo[1][1]x&x=:=1 where{x free}", "True x=1; end");
        TEXTS.all("differ(1:x)&x=:=[2]where{x free}", "True x=[2]; end");
    }

    /** A list of so many cells: one is told, what is in the others is their number, from 100 on. */
    private static String listWith(int count, int at, String cell) {
        StringBuilder text = new StringBuilder("[");
        for (int i = 1; i <= count; i++) {
            text.append(i == 1 ? "" : ",").append(i == at ? cell : "" + (100 + i));
        }
        return text.append("]").toString();
    }

    /** Of lists as long as can be, the first, the last and one between. */
    private static void eachCellCounts() {
        for (int count : new int[] {2, 31, 32}) {
            for (int at : new int[] {1, 2, count - 1, count}) {
                String list = listWith(count, at, "x");
                String spanned = "(span x 5 6&label" + list + ")where{x free}";
                TEXTS.all(spanned, "True x=5; True x=6; end");
                none("label" + list + "where{x free}", "waiting");
                int other = 100 + (at == count ? 1 : count);
                TEXTS.all("differ" + list + "&(x=:=" + other + "?x=:=7)where{x free}", "True x=7; end");
                none("differ" + listWith(count, at, "" + other), "failed");
                String factors = "[" + "0,".repeat(at - 1) + "3" + ",0".repeat(count - at) + "]";
                TEXTS.all("equalTo" + factors + list + "12&(x=:=3?x=:=4?x=:=5)where{x free}", "True x=4; end");
                TEXTS.all("atMost" + factors + list + "12&(x=:=5?x=:=4?x=:=3)where{x free}", "True x=4; True x=3; end");
                none("equalTo" + factors + listWith(count, at, "5") + "12", "failed");
                none("equalTo" + listWith(count, at, "x") + list + "12 where{x free}", "waiting");
            }
        }
    }

    /** When one is made, and when a VAR is BOUND, those none of whose VARS is FREE are looked at. */
    private static void lookedAt() {
        cost("differ[x,y]&x=:=1&y=:=2 where{x,y free}", "True for 6 3 0 2");
        none("differ[x,y]&x=:=1&y=:=1 where{x,y free}", "failed");
        none("x=:=1&y=:=1&differ[x,y]where{x,y free}", "failed");
        none("x=:=1&differ[x,y]&y=:=1 where{x,y free}", "failed");
        cost("differ[1,1,x]where{x free}", "True for 3 1 0 0");
        none("differ[1,1,x]&x=:=2 where{x free}", "failed");
        cost("differ[1,1,x]&y=:=2 where{x,y free}", "True for 5 2 0 1");
        cost("differ[x,y]&x=:=y where{x,y free}", "True for 5 2 0 1");
        none("differ[x,y]&x=:=y&x=:=1 where{x,y free}", "failed");
        none("x=:=y&differ[x,y]&x=:=1 where{x,y free}", "failed");
        cost("atMost[1,1][x,y]3&x=:=2&y=:=1 where{x,y free}", "True for 6 3 0 2");
        none("atMost[1,1][x,y]3&x=:=2&y=:=2 where{x,y free}", "failed");
        cost("atMost[1,1][x,y]3&x=:=9&False where{x,y free}", "False for 5 2 0 1");
        cost("equalTo[2,3][x,y]12&x=:=3&y=:=2 where{x,y free}", "True for 6 3 0 2");
        none("equalTo[2,3][x,y]12&x=:=3&y=:=3 where{x,y free}", "failed");
        none("equalTo[2,3][x,y]12&x=:=3&y=:=1 where{x,y free}", "failed");
        // A BRANCH BINDS as well.
        TEXTS.behind("k::Int->Int\nk 3=30\nk 4=40\n");
        TEXTS.all("differ[x,3]&>k x where{x free}", "40 x=4; end");
        TEXTS.all("(k x,differ[x,3])where{x free}", "(40,True) x=4; end");
        TEXTS.all("(differ[x,y]&>k x)+k y where{x,y free}", "70 x=3,y=4; 70 x=4,y=3; end");
        TEXTS.behind("");
    }

    /** Sixty are KEPT, a 61st is GIVEN UP. */
    private static void sixtyKept() {
        String rep = "rep::Int->Bool\nrep n=if n<=0 then True else differ[n]&rep(n-1)\nin1::Int->Bool\nin1 n=rep n\nin2::Int->Bool\nin2 n=rep 1&>hd(set in1 n)\n"
                + "hd::[a]->a\nhd(x:_)=x\n";
        for (int kept : new int[] {59, 60, 61, 62}) {
            String due = kept <= 60 ? "True; end" : "end";
            Tongue t = Tongue.with(rep);
            CHECKS.same("KEPT " + kept, t.all("rep " + kept), due);
            CHECKS.same("GIVEN UP", t.tongue.count(7), kept <= 60 ? 0 : 1);
            CHECKS.same("KEPT in a CAPSULE " + kept, t.all("set in1 " + kept), kept <= 60 ? "[True]; end" : "end");
            CHECKS.same("KEPT around a CAPSULE " + kept, t.all("rep 50&>set in1 " + (kept - 50)), kept <= 60 ? "[True]; end" : "end");
            CHECKS.same("KEPT around two " + kept, t.all("rep 50&>set in2 " + (kept - 51)), kept <= 60 ? "[True]; end" : "end");
            CHECKS.same("GIVEN UP", t.tongue.count(7), kept <= 60 ? 0 : 1);
            // Those of a CAPSULE are gone at its end.
            CHECKS.same("KEPT behind a CAPSULE " + kept, t.all("(set in1 60==[True])&>rep " + kept), due);
            CHECKS.same("KEPT in each of two CAPSULES", t.all("rep 20&>(set in1 40,set in1 40)"), "([True],[True]); end");
            // Each PATH has its own.
            CHECKS.same("KEPT on each PATH " + kept, t.all("rep 1&>(rep 59?rep 59?rep(" + kept + "-1))"), kept <= 60 ? "True; True; True; end" : "True; True; end");
        }
        Tongue t = Tongue.with(rep);
        CHECKS.same("a 61st, be it so or not", t.first("rep 60&>differ[1,1]"), "1 places, 1 given up");
        CHECKS.same("lists of two lengths FAIL first", t.first("rep 60&>atMost[1][]0"), "1 places, 1 failed");
        CHECKS.same("a sum, too", t.first("rep 60&>atMost[][]0"), "1 places, 1 given up");
        CHECKS.same("and an equation", t.first("rep 60&>equalTo[][]0"), "1 places, 1 given up");
        CHECKS.same("a 60th", t.first("rep 59&>equalTo[][]0"), "True");
        CHECKS.same("label and span are not KEPT", t.first("rep 60&>(label[]&span 1 1 1)"), "True");
    }

    private static void labels() {
        cost("label[]", "True for 2 1 0 0");
        cost("label[1,2,2]", "True for 2 1 0 0");
        cost("span x 1 3&label[x]where{x free}", "True for 7 2 1 1");
        cost("span x 2 2&label[x]where{x free}", "True for 5 2 0 1");
        cost("span x 1 2&span y 1 2&label[x,y]where{x,y free}", "True for 12 3 1 2");
        TEXTS.all("span x 1 2&span y 1 2&label[x,y]where{x,y free}", "True x=1,y=1; True x=1,y=2; True x=2,y=1; True x=2,y=2; end");
        TEXTS.all("span x 1 2&span y 1 2&label[y,x]where{x,y free}", "True x=1,y=1; True x=2,y=1; True x=1,y=2; True x=2,y=2; end");
        TEXTS.all("span x(0-1)1&label[x]where{x free}", "True x=-1; True x=0; True x=1; end");
        // As they come first; INTS and VARS that are BOUND are none.
        cost("span x 1 2&span y 1 2&label[x,5,x,y,x]where{x,y free}", "True for 12 3 1 2");
        cost("span x 1 2&x=:=1&label[x]where{x free}", "True for 5 3 0 1");
        cost("span x 1 2&x=:=y&label[x,y,x]where{x,y free}", "True for 8 3 1 2");
        // It is decided anew where it stands.
        TEXTS.all("span x 1 2&(label[x]&label[x])where{x free}", "True x=1; True x=2; end");
    }

    private static void labelsAndKept() {
        cost("span x 1 2&span y 1 2&differ[x,y]&label[x,y]where{x,y free}", "True for 13 4 1 2");
        TEXTS.all("span x 1 2&span y 1 2&differ[x,y]&label[x,y]where{x,y free}", "True x=1,y=2; True x=2,y=1; end");
        TEXTS.all("span x 1 3&differ[x,2]&label[x]where{x free}", "True x=1; True x=3; end");
        // What has a FREE VAR besides is not looked at.
        TEXTS.all("span x 1 2&differ[x,1,y]&label[x]where{x,y free}", "True x=1,y=_1; True x=2,y=_1; end");
        TEXTS.all("span x 1 2&differ[x,1,y]&y=:=5&label[x]where{x,y free}", "True x=2,y=5; end");
        // None FAILS, one is taken without a DECISION.
        none("span x 1 1&differ[x,1]&label[x]where{x free}", "failed");
        cost("span x 1 2&differ[x,1]&label[x]where{x free}", "True for 7 3 0 1");
        // Behind a number that is not good the next VAR is not tried.
        cost("span x 1 3&span y 1 9&equalTo[1][x]2&label[x,y]where{x,y free}", "True for 19 4 1 2");
        cost("span x 1 3&span y 1 9&equalTo[1][x]2&label[y,x]where{x,y free}", "True for 43 4 1 2");
        TEXTS.all("span x 0 9&span y 0 9&equalTo[10,1][x,y]42&label[x,y]where{x,y free}", "True x=4,y=2; end");
        TEXTS.all("span x 1 3&span y 1 3&differ[x,y]&atMost[1,1][x,y]4&label[x,y]where{x,y free}", "True x=1,y=2; True x=1,y=3; True x=2,y=1; True x=3,y=1; end");
    }

    private static void labelsWait() {
        none("label[x]where{x free}", "waiting");
        none("span x 1 2&label[x,y]where{x,y free}", "waiting");
        TEXTS.all("label[x]&span x 1 2 where{x free}", "True x=1; True x=2; end");
        none("label x where{x free}", "waiting");
        none("label[failed]", "failed");
        none("label(x:failed)where{x free}", "failed");
        // The one without a SPAN WAITS ahead of what is GIVEN UP.
        StringBuilder names = new StringBuilder("a");
        StringBuilder spans = new StringBuilder("span a 1 1");
        for (char name = 'b'; name <= 'k'; name++) {
            names.append(',').append(name);
            spans.append("&span ").append(name).append(" 1 1");
        }
        none(spans + "&label[" + names + ",z]where{" + names + ",z free}", "waiting");
        none(spans + "&label[z," + names + "]where{" + names + ",z free}", "waiting");
        none(spans + "&label[" + names + "]where{" + names + ",z free}", "given up");
    }

    private static void eightVars() {
        String names = "a,b,c,d,e,f,g,h,i";
        for (int count : new int[] {7, 8, 9}) {
            String some = names.substring(0, 2 * count - 1);
            StringBuilder spans = new StringBuilder();
            for (String name : some.split(",")) {
                spans.append("span ").append(name).append(" 1 1&");
            }
            String query = spans + "label[" + some + ",1," + some + "]where{" + some + " free}";
            if (count <= 8) {
                // A STEP for each SPAN, one for label, a try for each VAR; True and the names.
                cost(query, "True for " + (count + 1 + count + 1 + count) + " " + (count + 1) + " 0 " + count);
            } else {
                none(query, "given up");
            }
        }
    }

    private static void twoHundredWays() {
        Tongue t = Tongue.with("");
        for (int ways : new int[] {1, 2, 199, 200, 201, 202}) {
            String all = t.all("(span x 1 " + ways + "&label[x])&>x where{x free}");
            CHECKS.same("ways", t.tongue.count(4), ways <= 200 ? ways : 0);
            CHECKS.same("GIVEN UP", t.tongue.count(7), ways <= 200 ? 0 : 1);
            CHECKS.same("PLACES", t.tongue.count(3), ways == 1 || ways > 200 ? 1 : ways + 1);
            CHECKS.same("the last one", all.endsWith((ways <= 200 ? ways + " x=" + ways + "; " : "") + "end") ? 1 : 0, 1);
            CHECKS.same("its number", ways == 1 || ways > 200 || t.tongue.decision(0) == ways - 1 ? 1 : 0, 1);
        }
        // Only what is good counts: 201 tries of which 200 are.
        CHECKS.same("200 of 201", t.first("(span x 1 201&(differ[x,77]&label[x]))&>x where{x free}"), "1");
        CHECKS.same("201 of 202", t.first("(span x 1 202&(differ[x,77]&label[x]))&>x where{x free}"), "1 places, 1 given up");
        CHECKS.same("14 times 14", t.first("span x 1 14&span y 1 14&label[x,y]where{x,y free}"), "True");
        CHECKS.same("10 times 20", t.first("span x 1 10&span y 1 20&label[x,y]where{x,y free}"), "True");
        CHECKS.same("3 times 67", t.first("span x 1 3&span y 1 67&label[x,y]where{x,y free}"), "1 places, 1 given up");
        t.all("span x 1 200&label[x]where{x free}");
        CHECKS.same("LABOUR of 200 tries", t.costs(), "204 2 1 1");
    }
}
