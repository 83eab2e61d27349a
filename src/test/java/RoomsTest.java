/**
 * Texts and searches that are large, but within what the document counts: nothing else may refuse a
 * text, give a PATH up, cut off what is shown, or take longer and longer.
 */
public final class RoomsTest {
    private static int wrong = 0;
    private static int right = 0;

    public static void main(String[] args) {
        waitingInCommon();
        waitingCapsules();
        manyAtoms();
        manyTypes();
        deepTypes();
        printedTypes();
        manyWaiting();
        deepStacks();
        deepDecisions();
        manyAnds();
        manyDecisions();
        callsThatWait();
        manyNodes();
        manyCells();
        manyAlternatives();
        manyNames();
        manyDeclared();
        wideTypes();
        manyWays();
        deepInCapsules();
        manySaved();
        partsApplied();
        manyHeads();
        System.out.println(right + " checks hold, " + wrong + " do not");
        if (wrong != 0) {
            System.exit(1);
        }
    }

    private static void same(String what, long got, long want) {
        same(what, "" + got, "" + want);
    }

    private static void same(String what, String got, String want) {
        if (want.equals(got)) {
            right++;
        } else {
            wrong++;
            System.out.println(what + " answered " + some(got) + ", due is " + some(want));
        }
    }

    private static String some(String text) {
        return text == null || text.length() < 300 ? text : text.substring(0, 300) + " .. of " + text.length();
    }

    /** An object with a module. */
    private static Tongue with(String module) {
        Tongue t = new Tongue();
        same("the module", t.module(module), 0);
        return t;
    }

    /** Asks, goes on to the first VALUE, and tells that, or what next() answered. */
    private static String first(Tongue t, int way, String query) {
        int asked = t.ask(way, 1, query);
        if (asked != 0) {
            return "ask " + asked + " kind " + t.tongue.fault();
        }
        int next = t.tongue.next();
        return next == 1 ? t.show(5, 0) : "next " + next;
    }

    /** PLACES, VALUES, FAILED, WAITING, GIVEN UP, CUT. */
    private static String places(Tongue t) {
        StringBuilder text = new StringBuilder();
        for (int what = 3; what <= 8; what++) {
            text.append(what == 3 ? "" : " ").append(t.tongue.count(what));
        }
        return text.toString();
    }

    /** LABOUR, STEPS, DECISIONS, how often a VAR was BOUND. */
    private static String costs(Tongue t) {
        StringBuilder text = new StringBuilder();
        for (int what = 9; what <= 12; what++) {
            text.append(what == 9 ? "" : " ").append(t.tongue.count(what));
        }
        return text.toString();
    }

    /** ;n1=..;n2=.. up to a number, where < is the one ahead. */
    private static String chain(String name, String what, int from, int to) {
        StringBuilder text = new StringBuilder();
        for (int i = from; i <= to; i++) {
            text.append(';').append(name).append(i).append('=').append(what.replace("<", name + (i - 1)));
        }
        return text.toString();
    }

    private static void waitingInCommon() {
        String chain = chain("n", "<&<", 2, 59);
        for (int way = 0; way <= 2; way++) {
            Tongue t = new Tongue();
            same("9: all of it waits", first(t, way, "let{v free;n1=v&v" + chain + "}in n59"), "next 0");
            same("9: one PLACE", places(t), "1 0 0 1 0 0");
            same("9: it goes on", first(t, way, "let{v free;n1=v&v" + chain + "}in n59 & v=:=True"), "True");
            same("9: & costs nothing", costs(t), "2 1 0 1");
            same("9: False", first(t, way, "let{v free;n1=v&v" + chain + "}in v=:=False & n59"), "False");
            same("9: both of a =:= b fail", first(t, way, "let{v free;n1=v&v" + chain + "}in (v=:=False)&(n59=:=True)"), "next 0");
            same("9: FAILED", places(t), "1 0 1 0 0 0");
        }
        Tongue t = new Tongue();
        String rows = chain("n", "(<==True)&(<==True)&(x==1)", 2, 59);
        same("9: other things that wait", first(t, 0, "let{x free;n1=x==1" + rows + "}in n59"), "next 0");
        same("9: a SPAN is no BINDING, and lets go on", first(t, 0,
                "(label [x] & label [x]) & (span x 1 1 & x=:=y) & (label [x] & label [x]) where {x,y free}"), "True");
        same("9: a label without a SPAN", first(t, 0, "(label [x] & label [x]) & (label [x] & label [x]) where {x free}"), "next 0");
        same("9: it waits", places(t), "1 0 0 1 0 0");
        same("9: a & that becomes a &", first(t, 0, "(x=:=1 & y==1) & ((y==1 & y==1) & (y=:=1 & (y==1 & z==1))) & z=:=1 where {x,y,z free}"), "True");
        same("9: each VAR once", t.tongue.count(12), 3);
    }

    /** A CAPSULE that WAITS begins anew, and LABOURS anew, whenever it is needed. */
    private static void waitingCapsules() {
        Tongue t = with("f :: Int -> Int\nf x = x + 1\nhd :: [a] -> a\nhd (x:_) = x\n");
        same("9: a capsule", first(t, 0, "w where {v free;w=v=:=1&(set f v==[2])}"), "True");
        int once = t.tongue.count(9);
        // The STEP of f costs 5 each time that the CAPSULE begins.
        same("9: it waits once", first(t, 0, "(w&v=:=1) where {v free;w=set f v==[2]}"), "True");
        same("9: it begins anew", t.tongue.count(9), once + 5);
        same("9: it waits twice", first(t, 0, "((w&w)&v=:=1) where {v free;w=set f v==[2]}"), "True");
        same("9: it begins anew twice", t.tongue.count(9), once + 10);
        same("9: it waits 1024 times", first(t, 0, "(n10&v=:=1) where {v free;w=set f v==[2];n0=w" + chain("n", "<&<", 1, 10) + "}"), "True");
        same("9: it begins anew 1024 times", t.tongue.count(9), once + 5 * 1024);
        same("9: 2048 times are too often", first(t, 0, "(n11&v=:=1) where {v free;w=set f v==[2];n0=w" + chain("n", "<&<", 1, 11) + "}"), "next 0");
        same("9: GIVEN UP", places(t), "1 0 0 0 1 0");
        same("9: without LABOUR it may wait often", first(t, 0,
                "(n59&v=:=[]) where {v free;w=set hd v==[];n0=w" + chain("n", "<&<", 1, 59) + "}"), "True");
        same("9: [] of a set, == of two [] and =:= of v, 1 HEAD", t.tongue.count(9), 2 + 1 + 1);
    }

    private static void manyAtoms() {
        Tongue t = with("i :: a -> a\ni x = x\nk :: a -> b -> a\nk x _ = x\n");
        same("7: 900 times i", first(t, 0, "i ".repeat(900) + "1"), "1");
        same("7: 3 for each, 1 for the HEAD", costs(t), "2701 900 0 0");
        same("7: 1990 times i", first(t, 0, "i ".repeat(1990) + "1"), "1");
        same("7: 3 for each, 1 for the HEAD", costs(t), "5971 1990 0 0");
        t = with("i :: a -> a\ni x = x\nk :: a -> b -> a\nk x _ = x\n");
        same("7: LAMBDAS", first(t, 0, "(\\x->x)" + " i(\\x->x)".repeat(200) + " 1"), "1");
        same("7: 2 for each of these", costs(t), (201 * 2 + 200 * 3 + 1) + " 401 0 0");
        same("7: PARTS in between", first(t, 0, "k i 1 ".repeat(300) + "2"), "2");
        same("7: 3 for k, 3 for i", costs(t), (300 * 6 + 1) + " 600 0 0");
        same("7: too few", first(t, 0, "i ".repeat(900) + "k 1"), "<fun>");
    }

    private static void manyTypes() {
        String closed = "data T = T\ndata D a b c d e f g h = C (" + "T->".repeat(28) + "T)\n";
        same("5: one constructor", first(with(closed), 0, "failed" + " C".repeat(1990)), "next 0");
        StringBuilder vars = new StringBuilder("f :: ");
        for (char name = 'a'; name <= 'z'; name++) {
            vars.append(name).append("->");
        }
        same("5: 61 tokens", new Tongue().module(vars + "a'->b'->c'->[d']\n"), -1);
        same("5: 59 tokens", first(with(vars + "a'->b'->[d']\n"), 0, "failed" + " f".repeat(1990)), "next 0");
        same("5: 59 tokens, too many in all", first(with(vars + "a'->b'->[d']\n"), 0, "failed" + " f".repeat(2000)), "ask -1 kind 5");
        StringBuilder applied = new StringBuilder("data D a = D a\nf :: ");
        for (char name = 'a'; name <= 't'; name++) {
            applied.append("D ").append(name).append(name == 't' ? "\n" : "->");
        }
        same("5: 60 tokens", first(with(applied.toString()), 0, "failed" + " f".repeat(1990)), "next 0");
        same("5: a fault of types at the end", first(with(applied.toString()), 0, "failed" + " f".repeat(1980) + " (f 1)"),
                "ask " + (-1 - 6 - 2 * 1980 - 4) + " kind 6");
        String pairs = ";z0=failed" + chain("z", "(<,<)", 1, 120);
        same("5: what is shared is looked at once", first(new Tongue(), 0,
                "let{u free" + pairs + ";y0=failed" + chain("y", "(<,<)", 1, 120) + "}in(\\_->1)[z120,y120]"), "1");
        same("5: no unknown within itself", first(new Tongue(), 0,
                "let{z0=failed" + chain("z", "(<,<)", 1, 100) + "}in[z99,z100]").replaceAll(" -[0-9]+", ""), "ask kind 6");
    }

    private static void deepTypes() {
        String left = "data T = T\nc :: x -> " + "(".repeat(13) + "x" + "->T)".repeat(13) + "->T\n";
        Tongue t = with(left);
        String row = "c$".repeat(16);
        same("11: nested to the left", t.ask(0, 1, "let{z0=" + row + "failed" + chain("z", row + "<", 1, 49) + "}in z49"), 0);
        same("11: it is cut at 65536", t.tongue.show(3, 0), 65536);
        same("11: it begins so", t.tongue.byteOf(0), '(');
        same("11: brackets to the depth of 11199", t.tongue.byteOf(11198), '(');
        same("11: then the unknown", t.tongue.byteOf(11199), 'a');
        same("11: nested less", t.ask(0, 1, "let{z0=" + row + "failed" + chain("z", row + "<", 1, 4) + "}in z4"), 0);
        int deep = 14 * 16 * 5;
        same("11: all of it", t.show(3, 0), "(".repeat(deep - 1) + "a" + " -> T)".repeat(deep - 1) + " -> T");
        String lists = "data D a = D a\nc :: x -> " + "D [".repeat(19) + "x" + "]".repeat(19) + "\n";
        t = with(lists);
        same("11: lists and BIGS", t.ask(0, 1, "let{z0=" + row + "failed" + chain("z", row + "<", 1, 9) + "}in z9"), 0);
        deep = 19 * 16 * 10;
        same("11: all of it", t.show(3, 0), "D [".repeat(deep) + "a" + "]".repeat(deep));
    }

    private static void printedTypes() {
        Tongue t = with("data D a b = D a b\ndata E = E\nf :: (D a (D E b)->(a,[()],E))->(a->b)->[D (a->E) ()]->((),D [E] Int->a,b)->a->b->c\n");
        same("11: a signature", t.show(1, 28), "(D a (D E b) -> (a, [()], E)) -> (a -> b) -> [D (a -> E) ()] -> ((), D [E] Int -> a, b) -> a -> b -> c");
        same("11: E", t.ask(0, 1, "\\x _ -> (E, D x, [f])"), 0);
        same("11: a query", t.show(3, 0), "a -> b -> (E, c -> D a c, [(D d (D E e) -> (d, [()], E)) -> (d -> e) -> [D (d -> E) ()]"
                + " -> ((), D [E] Int -> d, e) -> d -> e -> f])");
        StringBuilder names = new StringBuilder("\\v0");
        StringBuilder types = new StringBuilder("a");
        StringBuilder tuple = new StringBuilder("v0");
        for (int i = 1; i < 60; i++) {
            names.append(i % 15 == 0 ? "-> \\" : " ").append("v").append(i);
            types.append(" -> ").append((char) ('a' + i % 26)).append(i < 26 ? "" : "" + i / 26);
        }
        same("11: many unknowns", t.ask(0, 1, names + "->" + tuple), 0);
        same("11: their names", t.show(3, 0), types + " -> a");
    }

    private static void manyWaiting() {
        String module = "g :: Int -> Bool\ng 0 = True\ng 1 = True\nloop :: Int -> Bool -> Bool -> Bool\n"
                + "loop n c v = if n == 0 then v =:= True else c & (g x & loop (n-1) c v) where {x free}\n";
        Tongue t = with(module);
        String few = "let{v free;n1=v&v" + chain("n", "<&v", 2, 5) + "}in loop 255 n5 v";
        String many = "let{v free;n1=v&v" + chain("n", "<&v", 2, 300) + "}in loop 255 n300 v";
        same("7: few nodes that wait", first(t, 0, few), "True");
        String costs = costs(t);
        same("7: LABOUR", t.tongue.count(9), 9469);
        same("7: many nodes that wait", first(t, 0, many), "True");
        same("7: they cost nothing", costs(t), costs);
        same("7: the next VALUE", t.tongue.next(), 1);
        same("7: its last DECISION", t.tongue.decision(254), 1);
        same("7: PLACES", places(t), "257 2 0 0 0 0");
    }

    /** A DECISION goes on where it was, however deep that is: 800 times & are around it. */
    private static void deepStacks() {
        String module = "mk :: Int -> [(Int,Int)]\nmk n = if n == 0 then [] else (y,w) : mk (n-1) where {y,w free}\n"
                + "r :: [(Int,Int)] -> Bool\nr [] = True\nr ((y,w):zs) = case y of {1 -> (w =:= 1 ? w =:= 2) & r zs}\n"
                + "s :: [(Int,Int)] -> Bool\ns [] = True\ns ((y,w):zs) = y =:= 1 & case w of {1 -> s zs; 2 -> s zs}\n";
        for (int way = 0; way <= 2; way++) {
            String counts = "";
            for (int rows = 1; rows <= 50; rows += 49) {
                Tongue t = with(module);
                String query = "let{v free;xs=mk 30;c0=v&r xs" + chain("c", "v&".repeat(16) + "<", 1, rows) + "}in(c" + rows + "&s xs)&v=:=True";
                same("7: ask", t.ask(way, 7, query), 0);
                int next = t.tongue.next();
                String got = next + " | " + places(t) + " | " + costs(t) + " | " + t.decisions();
                same("7: as without what is around", got, rows == 1 ? got : counts);
                counts = got;
            }
            same("7: a VALUE", counts.substring(0, 1), way == 0 ? "1" : way == 1 ? "2" : "0");
        }
    }

    /** Some hundred DECISIONS, each at the bottom of some thousand times & that are begun anew for it. */
    private static void deepDecisions() {
        String module = "data L = P Int Int L\nr :: L -> Int\nr (P 0 y z) = y + r z\nr (P 1 y z) = y + r z\n"
                + "s :: Int -> L -> Int\ns 0 (P w y z) = w + s y z\n";
        String deep = "let{v,x free;c0=r x==0" + chain("c", "v&".repeat(16) + "<", 1, 53) + "}in c53&s 0 x==0";
        String shallow = deep.replace("in c53", "in c0");
        same("7: as without what is around", endOf(module, deep), endOf(module, shallow));
        String rows = chain("c", "v&".repeat(16) + "<", 1, 53).substring(1);
        String twice = "let{v,x free;b=r x==0;d=h v b;c0=h v d" + chain("c", "v&".repeat(16) + "<", 1, 50) + "}in c50&s 0 x==0";
        String signature = "h :: Bool -> Bool -> Bool\nh v c0 = ";
        same("7: as without what is around", endOf(module + signature + "c53 where{" + rows + "}\n", twice),
                endOf(module + signature + "c0 where{" + rows + "}\n", twice));
    }

    private static String row(String what, String between, int from, int to) {
        StringBuilder text = new StringBuilder();
        for (int i = from; i < to; i++) {
            text.append(i == from ? "" : between).append(what.replace("<", "" + (i - 1)).replace("#", "" + i));
        }
        return text.toString();
    }

    /** What & joins, 15 in a Row. */
    private static String joined(String row) {
        String[] parts = row.split("&(?![^\\[]*\\])");
        StringBuilder text = new StringBuilder();
        for (int i = 0; i < parts.length; i++) {
            text.append(i == 0 ? "" : i % 15 == 0 ? "&(" : "&").append(parts[i]);
        }
        return text + ")".repeat((parts.length - 1) / 15);
    }

    /** Thousands of & in one another are begun anew ahead of each of hundreds of DECISIONS in b(..): one name more is BOUND. */
    private static void manyAnds() {
        String trues = "True:".repeat(15);
        StringBuilder module = new StringBuilder("data D=D" + " Bool".repeat(15) + " D|E Bool\n");
        module.append("a::[Bool]->Bool\na(" + trues + trues + "_)=True\nb::[Bool]->Bool\nb(" + trues + "_)=True\n");
        for (int i = 15; i > 0; i--) {
            module.append("b(").append("True:".repeat(i)).append("_)=False\n");
        }
        module.append("c::[Bool]->Bool\nc(" + trues + "_)=True\nh::Bool->Bool->(Bool,Bool)\nh w0 y=(c[" + row("v#&w#", ",", 1, 15)
                + ",v15&y],b[" + row("w<&v#", ",", 1, 16) + "])where{" + row("v#,w#", ",", 1, 15) + ",v15 free}\nfs::(a,b)->a\nfs(x,_)=x\n"
                + "sn::(a,b)->b\nsn(_,y)=y\nq::(D->D)->D->D\nq p x=" + "p(".repeat(27) + "p x" + ")".repeat(27) + "\n");
        for (int hs = 15; hs <= 24; hs += hs == 15 ? 2 : 7) {
            String last = "h" + (hs - 1);
            int depth = hs == 15 ? 11 : hs == 17 ? 10 : 6;
            String lefts = row("fs q#", "&", 0, hs);
            String rights = row("sn q#", "&", 0, hs);
            for (int i = 0; i < 4; i++) {
                lefts += "&a[" + row("v#&w#", ",", 30 * i + 1, 30 * i + 31) + "]";
                rights += "&b[" + row("w<&v#", ",", 30 * i + 1, 30 * i + 16) + "]&b[" + row("w<&v#", ",", 30 * i + 16, 30 * i + 31) + "]";
            }
            String query = "(" + joined(lefts) + ")&(x" + depth + "=:=x" + depth + ")where{" + row("h#", ",", 0, hs) + ","
                    + row("v#,w#", ",", 1, 121) + ",u free;q0=h True h0;" + row("q#=h h< h#", ";", 1, hs) + ";r=u&u;p=D" + " r".repeat(15)
                    + ";x0=E(" + joined(rights) + ")" + chain("x", "q p <", 1, depth) + "}";
            query = query.replace("w0&", last + "&");
            int decisions = 15 * hs + 120;
            Tongue t = with(module.toString());
            same("9: all WAIT", first(t, 0, query), "next 0");
            same("9: with each DECISION one more", places(t), (2 * decisions + 1) + " 0 0 " + (decisions + 1) + " 0 0");
            same("9: in WINDOWS", first(t, 1, query), "next 0");
            same("9: the same", places(t), (2 * decisions + 1) + " 0 0 " + (decisions + 1) + " 0 0");
        }
    }

    /** CALLS, or CAPSULES, all of which come to one place further on behind each of 47 DECISIONS, for which they LABOUR nothing. */
    private static void callsThatWait() {
        String ones = "T" + " 1".repeat(16);
        String module = "data T = T" + " Int".repeat(16) + "\nf :: (T,T,T) -> Bool\nf (" + ones + "," + ones + "," + ones + ") = True\n"
                + "hd :: [Bool] -> Bool\nhd (x:_) = x\np :: (T,T,T) -> Bool\np t = CALL" + "&CALL".repeat(16)
                + "\nq :: (T,T,T) -> Bool\nq t = p t" + "&p t".repeat(16) + "\nk :: [Int] -> [Int] -> Bool\nk [] [] = True\n"
                + "k (x:xs) (y:ys) = x>=0 &> y=:=0 & k xs ys\ng :: [Int] -> [Int] -> Bool\ng [] [] = True\n"
                + "g (x:xs) (y:ys) = x=:=(1?1) & (y>=0 &> g xs ys)\n";
        String parts = "(T " + row("(x#+0)", " ", 0, 16) + ",T " + row("(x#+0)", " ", 16, 32) + ",T " + row("(x#+0)", " ", 32, 48) + ")";
        String block = " where {" + row("x#,y#", ",", 0, 48) + " free;t=" + parts + ";xs=[" + row("x#", ",", 0, 48) + "];ys=[" + row("y#", ",", 0, 48) + "]}";
        String less = block.replace(",x47];", "];").replace(",y47]", "]");
        Tongue t = with(module.replace("CALL", "f t"));
        same("7: 1156 CALLS", first(t, 0, "(q t&q t&q t&q t&k xs ys)&g xs ys" + block), "True");
        same("7: LABOUR", costs(t), (2311 + 4 * 1803) + " " + (480 + 4 * 307 + 2) + " 48 96");
        same("7: 2312 CALLS", first(t, 0, "(q t&q t&q t&q t&q t&q t&q t&q t&k xs ys)&g xs ys" + less), "next 2");
        same("7: all WAIT", places(t), "1000 0 0 480 0 0");
        t = with(module.replace("CALL", "hd(set f t)"));
        same("7: 578 CAPSULES", first(t, 0, "(q t&q t&k xs ys)&g xs ys" + less), "next 2");
        same("7: all WAIT", places(t), "1000 0 0 480 0 0");
        same("7: 289 CAPSULES", first(t, 0, "(q t&k xs ys)&g xs ys" + block), "True");
    }

    /** DECISIONS that stay, each with others behind it that are over, inside of many times & begun one after the other. */
    private static void manyDecisions() {
        String module = "isz :: Int -> Bool\nisz 0 = True\nisz 1 = True\ns :: Int -> Bool -> Bool\n"
                + "s n v = if n < 1 then v =:= True else isz x & (v ? s (n-1) v) where {x free}\n";
        StringBuilder query = new StringBuilder("let{v,x0");
        StringBuilder rows = new StringBuilder();
        int told = 1;
        for (int row = 1; row <= 44; row++) {
            rows.append(";c").append(row).append("=");
            for (int i = 0; i < 5; i++) {
                query.append(",x").append(told);
                rows.append("v&x").append(told).append("=:=1&");
                told++;
            }
            rows.append("c").append(row - 1);
        }
        query.append(" free;c0=s 240 v").append(rows).append("}in c");
        same("7: as without what is around", endOf(module, query + "44"), endOf(module, query + "1"));
        Tongue t = with(module);
        same("7: ask", t.ask(0, 1, query + "44"), 0);
        StringBuilder all = new StringBuilder();
        for (int next = t.tongue.next(); next == 1; next = t.tongue.next()) {
            all.append(t.tongue.count(11)).append(t.tongue.decision(t.tongue.count(11) - 2)).append(' ');
        }
        same("7: all VALUES lie at the same depth", all.toString(), "4800 4801 ".repeat(24));
    }

    private static String endOf(String module, String query) {
        Tongue t = with(module);
        same("7: ask", t.ask(0, 1, query), 0);
        return t.tongue.next() + " | " + places(t);
    }

    private static void manyNodes() {
        String wide = "data D = E | D" + " D".repeat(16) + "\nf :: D\nf = D" + " f".repeat(16) + "\n";
        Tongue t = with(wide);
        same("7: only LABOUR ends it", first(t, 0, "x =:= f where {x free}"), "next 0");
        same("7: GIVEN UP", places(t), "1 0 0 0 1 0");
        String dag = "let{a0=E" + chain("a", "D" + " <".repeat(16), 1, 40) + ";x free}in ";
        same("7: only LABOUR ends it", first(t, 0, dag + "x =:= a40"), "next 0");
        same("7: GIVEN UP", places(t), "1 0 0 0 1 0");
        same("7: less of it", first(t, 0, dag + "x =:= a2"), "True");
        // a2 costs 17, each of its 16 parts 17, each of theirs, E, 1; the HEAD 1.
        same("7: LABOUR", costs(t), (17 + 16 * 17 + 256 + 1) + " " + (1 + 16 + 256) + " 0 " + (1 + 16 + 256));
        // Each of 34 equations costs 17, and 17 for each of its parts, all of which WAIT then.
        String query = "let{v free;w=case v of{E->E};z=D" + " w".repeat(16) + ";y=D" + " z".repeat(16) + ";c0=v==E";
        for (int i = 1; i <= 34; i++) {
            query += ";x" + i + " free;c" + i + "=x" + i + "=:=y&c" + (i - 1);
        }
        same("7: nearly all LABOUR is for NODES", first(t, 0, query + "}in c34&False"), "False");
        same("7: LABOUR", costs(t), (34 * 17 * 17 + 1) + " " + 34 * 17 + " 0 " + 34 * 17);
    }

    /** Names of two letters that are no WORDS. */
    private static String name(char first, int i) {
        return "" + first + (char) ('a' + i % 26) + (i < 26 ? "" : "" + i / 26);
    }

    /** Patterns of 60 constructors and INTS, one for each fcase, are what comes to the most cells. */
    private static void manyCells() {
        String zeros = "[" + "0,".repeat(28) + "0]";
        StringBuilder text = new StringBuilder("f :: [Int] -> [Int]\n");
        for (int i = 0; i < 9; i++) {
            text.append(i == 0 ? "" : "f _=[]\n").append("f a=[").append(("fcase a of{" + zeros + "->" + i + "},").repeat(12)).append("0]\n");
        }
        Tongue t = with(text.toString());
        same("4: bytes", text.length() > 8000 && text.length() < 9000 ? 1 : 0, 1);
        same("4: all of it works", first(t, 0, "f " + zeros), "[" + "0,".repeat(12) + "0]");
        same("4: rules", t.tongue.fact(28, 1), 17);
        StringBuilder rules = new StringBuilder();
        int count = 0;
        for (; rules.length() < 9900; count++) {
            rules.append(name('f', count)).append("::[Int]->Int\n").append(name('f', count)).append(zeros).append("=").append(count).append("\n");
        }
        t = with(rules.toString());
        same("4: functions", t.tongue.count(0), 28 + count);
        same("4: the last one", first(t, 0, name('f', count - 1) + zeros), "" + (count - 1));
        same("4: its BRANCHES", t.tongue.fact(28 + count - 1, 2), 59);
        nestedCases("[" + "0,".repeat(28) + "0]");
        nestedCases("0:".repeat(30) + "_");
    }

    /** 71 bytes and 180 cells for each case. */
    private static void nestedCases(String pattern) {
        String query = "[" + cases(14, pattern) + "," + cases(14, pattern) + "]";
        Tongue t = new Tongue();
        int fed = 0;
        for (; fed + query.length() + 20 <= 10240; fed += (query.length() + 19) / 20 * 20) {
            same("4: a Query of nested cases", t.ask(0, 1, query), 0);
            same("4: it fails", t.tongue.next(), 0);
        }
        String rest = "[" + cases(Math.min(14, (10240 - fed) / 80), pattern) + "]";
        same("4: the last bytes", first(t, 0, rest), rest.length() > 3 ? "next 0" : "[0]");
        StringBuilder text = new StringBuilder("f::[Int]\n");
        while (text.length() + query.length() + 3 <= 10240) {
            text.append("f=").append(query).append('\n');
        }
        text.append("f=[").append(cases(Math.min(14, (10236 - text.length()) / 80), pattern)).append("]");
        same("4: a module of them", new Tongue().module(text.toString()), 0);
    }

    private static String cases(int count, String pattern) {
        String text = "0";
        for (int i = 0; i < count; i++) {
            text = "case[]of{" + pattern + "->" + text + "}";
        }
        return text;
    }

    /** Alts whose patterns have nothing in common, in as many bytes as there can be: nearly three cells for each of them. */
    private static void manyAlternatives() {
        String alts = "";
        for (int i = 0; i < 4; i++) {
            alts += (i == 0 ? "{" : ";") + "_:".repeat(i) + "(" + "1:".repeat(29 - i / 2) + "_):a->a";
        }
        for (String word : new String[] {"case ", "fcase "}) {
            String five = "f=" + word.repeat(7) + "[]" + ("of" + alts + "}").repeat(7) + "\n";
            StringBuilder text = new StringBuilder("f::[[Int]]\n");
            while (text.length() + five.length() <= 10200) {
                text.append(five);
            }
            for (int i = 0; i < 3 && text.length() + 60 < 10200; i++) {
                text.append("f=" + word + "[]of{_:_:(" + "1:".repeat(Math.min(28, (10200 - text.length() - 40) / 2)) + "_):a->a}\n");
            }
            same("4: all of it is good", new Tongue().module(text.toString()), 0);
        }
        StringBuilder text = new StringBuilder();
        for (int k = 0; text.length() < 9900; k++) {
            text.append(k % 150 > 0 ? "" : name('f', k / 150) + "::[[Int]]->[Int]\n").append(name('f', k / 150))
                    .append("(").append("_:".repeat(k % 20)).append("[").append("1,".repeat(18)).append("a]:_)=[a]\n");
        }
        Tongue t = with(text.toString());
        same("4: it works", first(t, 0, "fa([1" + ",1".repeat(17) + ",7]:failed)"), "[7]");
        String query = "case case case[]of" + alts + "}of" + alts + "}of" + alts + "}";
        t = new Tongue();
        for (int fed = 0; fed + query.length() + 20 <= 10200; fed += (query.length() + 19) / 20 * 20) {
            same("5: a Query of them", t.ask(0, 1, query), 0);
            same("5: it fails", t.tongue.next(), 0);
        }
    }

    /** Names of texts that are refused stay; there is room for all that 512 calls can tell. */
    private static void manyNames() {
        String signs = "!#$%&*+./<>?^~";
        StringBuilder text = new StringBuilder();
        int told = 0;
        for (int i = 0; i < 52; i++) {
            for (int j = 0; j < 36 && text.length() < 9600; j++) {
                text.append((char) (i < 26 ? 'a' + i : 'A' + i - 26)).append((char) (j < 26 ? 'a' + j : '0' + j - 26));
                text.append(signs.charAt(told % 14)).append(signs.charAt(told / 14 % 14)).append(signs.charAt(told / 196 % 14));
                told++;
            }
        }
        Tongue t = new Tongue();
        same("5: names", told, 1872);
        same("5: a fault at the 17th Op", t.ask(0, 1, text.toString()), -1 - 5 * 17 + 3);
        same("5: of kind", t.tongue.fault(), 2);
        same("5: a new name", t.module("zzz :: a -> a\nzzz x = x\n"), 0);
        same("5: it is known", first(t, 0, "zzz 1"), "1");
        same("5: it is shown", t.show(0, 28), "zzz");
    }

    private static void manyDeclared() {
        StringBuilder text = new StringBuilder();
        int count = 0;
        for (; text.length() < 10000; count++) {
            text.append(name('f', count)).append("::a\n");
        }
        Tongue t = with(text.toString());
        same("4: functions", t.tongue.count(0), 28 + count);
        same("4: the last one", t.show(0, 27 + count), name('f', count - 1));
        text = new StringBuilder("data A=A\n");
        for (int i = 0; text.length() < 10080; i++) {
            text.append("data A=A\n");
        }
        t = new Tongue();
        same("4: types, told again", t.module(text.toString()), -1 - 14);
        same("4: a fault of names", t.tongue.fault(), 3);
        text = new StringBuilder("data A=A0");
        for (count = 1; text.length() < 9900; count++) {
            text.append("|").append(name('A', count));
        }
        t = with(text.append("\n").toString());
        same("4: the last constructor", first(t, 0, name('A', count - 1)), name('A', count - 1));
    }

    /** Types of 60 tokens that come to as many places as can be. */
    private static void wideTypes() {
        for (int parts = 1; parts <= 8; parts++) {
            StringBuilder text = new StringBuilder("data T");
            for (int i = 0; i < parts; i++) {
                text.append(' ').append((char) ('a' + i));
            }
            text.append(" = C\nf :: ");
            int tokens = 0;
            for (int told = 0; tokens + parts + 3 <= 60; tokens += parts + 2) {
                text.append("T");
                for (int i = 0; i < parts; i++) {
                    text.append(' ').append(name('v', told++));
                }
                text.append("->");
            }
            text.append(tokens + 3 <= 60 ? "[w]\n" : "w\n");
            Tongue t = with(text.toString());
            same("5: " + parts + " parts", first(t, 0, "failed" + " f".repeat(1999)), "next 0");
            same("5: a list of them", first(t, 0, "[" + "f,".repeat(998) + "f]"), "[" + "<fun>,".repeat(998) + "<fun>]");
        }
    }

    /** Ways of label, found anew one after the other. */
    private static void manyWays() {
        String two = "(span x 0 13 & (span y (0-3) 10 & label [x,y])) &> (x,y) where {x,y free}";
        for (int way = 0; way <= 2; way++) {
            Tongue t = new Tongue();
            same("7: ask", t.ask(way, 1, two), 0);
            for (int i = 0; i < 196; i++) {
                same("7: a way", t.tongue.next() + t.show(5, 0), "1(" + i / 14 + "," + (i % 14 - 3) + ")");
                same("8: its number", t.tongue.decision(0), i);
            }
            same("7: no more", t.tongue.next(), 0);
            same("7: PLACES", places(t), "197 196 0 0 0 0");
            t = new Tongue();
            same("7: ask", t.ask(way, 2, "(span x 1 3 & (span y 1 4 & (differ [x,y] & (label [x] & (label [z,y] & label [y,x]))))) &> (x,y) where {x,y,z free;w=span z 5 6}"), 0);
            same("7: z has no SPAN", t.tongue.next() + " " + places(t), "0 13 0 0 9 0 0");
            same("7: ask", t.ask(way, 2, "(span x 1 3 & (span z 5 6 & (span y 1 4 & (differ [x,y] & (label [x] & (label [z,y] & label [y,x])))))) &> (x,y,z) where {x,y,z free}"), 0);
            StringBuilder due = new StringBuilder();
            StringBuilder got = new StringBuilder();
            for (int i = 0; i < 18; i++) {
                int x = 1 + i / 6;
                int y = 1 + i % 3 + (1 + i % 3 >= x ? 1 : 0);
                due.append("1(" + x + "," + y + "," + (5 + i % 6 / 3) + ") " + i / 6 + " " + i % 6 + " ");
                got.append(t.tongue.next()).append(t.show(5, 0)).append(' ').append(t.tongue.decision(0)).append(' ').append(t.tongue.decision(1)).append(' ');
            }
            same("7: ways in ways", got.toString(), due.toString());
            same("7: PLACES", t.tongue.next() + " " + places(t), "0 22 18 0 0 0 0");
            same("7: 200 ways", first(t, way, "(span x 1 200 & label [x]) &> x where {x free}"), "1");
            same("7: a 201st", first(t, way, "(span x 1 201 & label [x]) &> x where {x free}"), "next 0");
            same("7: is GIVEN UP", places(t), "1 0 0 0 1 0");
        }
        Tongue t = with("f :: Int -> (Int,Int)\nf n = (span x 0 n & (span y 0 2 & (atMost [1,1] [x,y] n & label [y,x]))) &> (x,y) where {x,y free}\n");
        same("7: ways in a CAPSULE", first(t, 0, "set f 2"), "[(0,0),(1,0),(2,0),(0,1),(1,1),(0,2)]");
    }

    /** DECISIONS in a CAPSULE, each at the bottom of many times &, some of which are on their right side. */
    private static void deepInCapsules() {
        String module = "b :: Int -> Bool\nb 0 = True\nb 1 = True\nh :: Int -> (Int,Int,Int)\nh n = ((CHAIN & right) & x=:=n) &> (y,w,u) where{"
                + "v free;x,y,z,w,u free;bottom=case x of{1->(y=:=1?y=:=2)&case z of{1->b w}};right=case y of{1->z=:=1&v=:=True;2->z=:=1&(v=:=True&b u)};c0=v&bottom";
        String values = "[(1,0,_1),(1,1,_1),(2,0,0),(2,1,0),(2,0,1),(2,1,1)]";
        for (int rows = 0; rows <= 50; rows += 10) {
            String rule = module.replace("CHAIN", "c" + rows) + chain("c", "v&".repeat(16) + "<", 1, rows) + "}\n";
            Tongue t = with(rule);
            same("7: as without what is around", first(t, 0, "set h 1").replaceAll("_[0-9]", "_1"), values);
            same("7: in an & as well", first(t, 0, "(q & (set h 1 == set h q2)) where {q free;q2 free}"), "next 0");
            same("7: it waits", places(t), "1 0 0 1 0 0");
            StringBuilder all = new StringBuilder();
            t.ask(0, 1, "h 1");
            while (t.tongue.next() == 1) {
                all.append(all.length() == 0 ? "[" : ",").append(t.show(5, 0));
            }
            same("7: outside of one", all + "]", values);
        }
    }

    /** What was older than a DECISION, and was worked out behind it, is undone. */
    private static void manySaved() {
        Tongue t = with("c :: Int -> Int\nc x = x\nc x = x + 1\nsum :: [Int] -> Int\nsum [] = 0\nsum (x:xs) = x + sum xs\n"
                + "mk :: Int -> [Int]\nmk 0 = []\nmk n = (n + 0) : mk (n - 1)\n");
        String ones = "[" + "1,".repeat(600) + "1]";
        same("7: ask", t.ask(0, 1, "c (sum xs) + sum xs where {xs=" + ones + "}"), 0);
        same("7: the first", t.tongue.next() + t.show(5, 0), "11202");
        same("7: the second", t.tongue.next() + t.show(5, 0), "11203");
        same("7: no more", t.tongue.next(), 0);
        same("7: ask", t.ask(0, 1, "(sum xs =:= s & x =:= c s) &> (c 0 ? c 5) where {x,s free;xs=" + ones + "}"), 0);
        StringBuilder all = new StringBuilder();
        while (t.tongue.next() == 1) {
            all.append(t.show(5, 0)).append(' ');
        }
        same("7: twice for each way", all.toString(), "0 1 5 6 0 1 5 6 ");
    }

    /** PARTS that lack one NODE, each applied anew, take the most memory. */
    private static void partsApplied() {
        Tongue t = with("data D = D" + " Int".repeat(16) + "\nf :: D -> Int\nf (D a" + " _".repeat(15) + ") = a\n");
        String part = "p=D" + " 7".repeat(15) + ";x=1";
        same("7: PARTS", first(t, 0, "[" + "p x,".repeat(500) + "p x] where {" + part.replace(" 7 7;", " 7;") + "}").length(), 6 * 501 + 1);
        String sum = "f (p x)" + "+f (p x)".repeat(15);
        StringBuilder text = new StringBuilder("let{" + part + ";s0=0");
        for (int i = 1; i <= 18; i++) {
            text.append(";s").append(i).append("=").append(sum).append("+s").append(i - 1);
        }
        same("7: DATA", first(t, 0, text + "}in s18"), "" + 7 * 16 * 18);
        // Each p x has 22 places for 3 tokens, and WAITS; the body of h has 33 rows of 17.
        String row = "p x" + "&p x".repeat(16);
        t = with("f::" + "Int->".repeat(15) + "Bool->Bool\nf" + " _".repeat(15) + " True=True\nh::(Bool->Bool)->Bool->Bool\nh p x="
                + ("(" + row + ")&").repeat(16) + "((" + row + ")" + ("&(" + row + ")").repeat(16) + ")\n");
        String asked = ("(" + row.replace('x', 'r') + ")&").repeat(12);
        String query = "(" + "h p r&".repeat(4) + asked + "(" + asked + "(" + asked + "h p r)))&False where{u,v free;r=u&v;p=f" + " 1".repeat(15) + "}";
        same("7: PARTS that WAIT", first(t, 0, query), "False");
        same("7: LABOUR", costs(t), 5 * (1 + 33 * 52 + 34 + 1) + 3 + " 5 0 0");
    }

    /** A VALUE of as many HEADS as LABOUR allows, and all of them come out. */
    private static void manyHeads() {
        Tongue t = with("up :: Int -> Int -> [Int]\nup a b = if a > b then [] else a : up (a+1) b\n");
        StringBuilder due = new StringBuilder("[1");
        for (int i = 2; i <= 250; i++) {
            due.append(',').append(i);
        }
        same("11: a list", first(t, 0, "up 1 250"), due + "]");
        same("11: of as many HEADS", first(t, 0, "map (+ 0) (up 1 125) ++ up 126 250"), due + "]");
        same("11: at an end that is not known", first(t, 0, "up 1 250 ++ x where {x free}"), due.substring(1).replace(",", " : ") + " : _1");
        t = with("data N = Z | S N\nto :: Int -> N\nto n = if n == 0 then Z else S (to (n - 1))\n");
        same("11: nested", first(t, 0, "to 300"), "S (".repeat(299) + "S Z" + ")".repeat(299));
        String pairs = chain("z", "(<,<)", 1, 10);
        same("11: shared", first(t, 0, "let{z0=1" + pairs + "}in z10").length(), 1024 + 3 * 1023);
        same("11: all of 5 lists", first(t, 0, "(" + "[()],".repeat(2) + "[()])"), "([()],[()],[()])");
    }
}
