/** How VALUES are printed, and what is cut behind the 65536th byte of the OUT. */
public final class PrintedTest {
    private static final String MODULE = "data K a = K a | P a (K a) | N\ndata J = J Int | B Int Int\ndata L a = L [a]\n"
        + "data S = Z | S S\n";
    private static final int ROOM = 65536;
    private static final Checks checks = new Checks();
    private static final Texts texts = new Texts(checks);

    public static void main(String[] args) {
        texts.behind(MODULE);
        ints();
        leastAndMost();
        constructors();
        lists();
        openLists();
        tuples();
        parts();
        varsOfTheValue();
        varsOfTheNames();
        varsBoundLater();
        manyVars();
        deepValues();
        longLists();
        longNames();
        longTypes();
        longTrees();
        checks.end();
    }

    // ---- INTS

    private static void ints() {
        texts.all("0", "0; end");
        texts.all("007", "7; end");
        texts.all("0 - 1", "-1; end");
        texts.all("J 0", "J 0; end");
        texts.all("J 1", "J 1; end");
        texts.all("J (0 - 1)", "J (-1); end");
        texts.all("B (0 - 1) 2", "B (-1) 2; end");
        texts.all("B 1 (0 - 2)", "B 1 (-2); end");
        texts.all("B (0 - 1) (0 - 2)", "B (-1) (-2); end");
        // Behind a constructor alone: not in lists, tuples, and ahead of a : .
        texts.all("[0 - 1, 0, 1]", "[-1,0,1]; end");
        texts.all("K [0 - 1]", "K [-1]; end");
        texts.all("K (0 - 1, 0 - 2)", "K (-1,-2); end");
        texts.all("(0 - 1, 2, 0 - 3)", "(-1,2,-3); end");
        texts.all("(0 - 1) : (0 - 2) : x where { x free }", "-1 : -2 : _1 x=_1; end");
        texts.all("K ((0 - 1) : x) where { x free }", "K (-1 : _1) x=_1; end");
        texts.all("x =:= 0 - 1 &> J x where { x free }", "J (-1) x=-1; end");
    }

    private static void leastAndMost() {
        String least = "let { a = 65536; b = a * a * 65536 * 32768 } in ";
        texts.all(least + "b", "-9223372036854775808; end");
        texts.all(least + "b - 1", "9223372036854775807; end");
        texts.all(least + "b + 1", "-9223372036854775807; end");
        texts.all(least + "J b", "J (-9223372036854775808); end");
        texts.all(least + "J (b - 1)", "J 9223372036854775807; end");
        texts.all(least + "[b, b - 1]", "[-9223372036854775808,9223372036854775807]; end");
        texts.all("999999999 + 1", "1000000000; end");
        texts.all("0 - 999999999 - 1", "-1000000000; end");
        texts.all("[9, 10, 99, 100, 0 - 9, 0 - 10]", "[9,10,99,100,-9,-10]; end");
    }

    // ---- DATA

    private static void constructors() {
        texts.all("Z", "Z; end");
        texts.all("S Z", "S Z; end");
        texts.all("S (S Z)", "S (S Z); end");
        texts.all("K Z", "K Z; end");
        texts.all("K (S Z)", "K (S Z); end");
        texts.all("P (K 1) (P (K 2) N)", "P (K 1) (P (K 2) N); end");
        texts.all("P Z (K (S Z))", "P Z (K (S Z)); end");
        texts.all("K (K (K N))", "K (K (K N)); end");
        texts.all("[S Z, Z]", "[S Z,Z]; end");
        texts.all("(S Z, K 1)", "(S Z,K 1); end");
        texts.all("K ()", "K (); end");
        texts.all("K True", "K True; end");
        texts.all("K []", "K []; end");
        texts.all("K [S Z]", "K [S Z]; end");
        texts.all("K x where { x free }", "K _1 x=_1; end");
    }

    private static void lists() {
        texts.all("[]", "[]; end");
        texts.all("1 : []", "[1]; end");
        texts.all("[1]", "[1]; end");
        texts.all("1 : [2]", "[1,2]; end");
        texts.all("[1, 2] ++ [3]", "[1,2,3]; end");
        texts.all("[[], [[]]]", "[[],[[]]]; end");
        texts.all("[x] where { x free }", "[_1] x=_1; end");
        texts.all("L [L [], L [L []]]", "L [L [],L [L []]]; end");
        texts.all("[K [1], K []]", "[K [1],K []]; end");
    }

    private static void openLists() {
        texts.all("x where { x free }", "_1 x=_1; end");
        texts.all("1 : x where { x free }", "1 : _1 x=_1; end");
        texts.all("1 : 2 : x where { x free }", "1 : 2 : _1 x=_1; end");
        texts.all("[] : x where { x free }", "[] : _1 x=_1; end");
        texts.all("[1] : x where { x free }", "[1] : _1 x=_1; end");
        texts.all("(1, 2) : x where { x free }", "(1,2) : _1 x=_1; end");
        texts.all("J 1 : x where { x free }", "J 1 : _1 x=_1; end");
        texts.all("K Z : x where { x free }", "K Z : _1 x=_1; end");
        texts.all("not : x where { x free }", "<fun> : _1 x=_1; end");
        // In brackets: as what stands ahead of a : , and behind a constructor; nowhere else.
        texts.all("(1 : x) : y where { x, y free }", "(1 : _1) : _2 x=_1,y=_2; end");
        texts.all("(1 : x) : (2 : y) : z where { x, y, z free }", "(1 : _1) : (2 : _2) : _3 x=_1,y=_2,z=_3; end");
        texts.all("((1 : x) : y) : z where { x, y, z free }", "((1 : _1) : _2) : _3 x=_1,y=_2,z=_3; end");
        texts.all("[1 : x] where { x free }", "[1 : _1] x=_1; end");
        texts.all("[1 : x, 2 : x] where { x free }", "[1 : _1,2 : _1] x=_1; end");
        texts.all("[1 : x] : y where { x, y free }", "[1 : _1] : _2 x=_1,y=_2; end");
        texts.all("(1 : x, 2) where { x free }", "(1 : _1,2) x=_1; end");
        texts.all("K (1 : x) where { x free }", "K (1 : _1) x=_1; end");
        texts.all("K [1 : x] where { x free }", "K [1 : _1] x=_1; end");
        texts.all("K (1 : x, 2) where { x free }", "K (1 : _1,2) x=_1; end");
        texts.all("P (1 : x) (K (2 : x)) where { x free }", "P (1 : _1) (K (2 : _1)) x=_1; end");
        texts.all("K (1 : x) : y where { x, y free }", "K (1 : _1) : _2 x=_1,y=_2; end");
        // One that ends in [] only by what a VAR is BOUND to.
        texts.all("x =:= [2] &> 1 : x where { x free }", "[1,2] x=[2]; end");
        texts.all("x =:= 2 : y &> 1 : x where { x, y free }", "1 : 2 : _1 x=2 : _1,y=_1; end");
    }

    private static void tuples() {
        texts.all("()", "(); end");
        texts.all("(1, 2)", "(1,2); end");
        texts.all("(1, 2, 3)", "(1,2,3); end");
        texts.all("((1, 2), (3, 4, 5))", "((1,2),(3,4,5)); end");
        texts.all("K (1, 2)", "K (1,2); end");
        texts.all("K (1, 2, 3)", "K (1,2,3); end");
        texts.all("(x, y) where { x, y free }", "(_1,_2) x=_1,y=_2; end");
        texts.all("[(1, ()), (2, ())]", "[(1,()),(2,())]; end");
    }

    private static void parts() {
        texts.all("not", "<fun>; end");
        texts.all("K", "<fun>; end");
        texts.all("P 1", "<fun>; end");
        texts.all("P 1 N", "P 1 N; end");
        texts.all("(+) 1", "<fun>; end");
        texts.all("(+ 1)", "<fun>; end");
        texts.all("\\x -> x", "<fun>; end");
        texts.all("K not", "K <fun>; end");
        texts.all("P not (K not)", "P <fun> (K <fun>); end");
        texts.all("[not, \\x -> x]", "[<fun>,<fun>]; end");
        texts.all("(not, 1)", "(<fun>,1); end");
    }

    // ---- VARS

    private static void varsOfTheValue() {
        texts.all("(x, x) where { x free }", "(_1,_1) x=_1; end");
        texts.all("(y, x) where { x, y free }", "(_1,_2) x=_2,y=_1; end");
        texts.all("(y, x, y) where { x, y free }", "(_1,_2,_1) x=_2,y=_1; end");
        texts.all("P y (P x (K y)) where { x, y free }", "P _1 (P _2 (K _1)) x=_2,y=_1; end");
        texts.all("[z, x, y] where { x, y, z free }", "[_1,_2,_3] x=_2,y=_3,z=_1; end");
        texts.all("let { u free } in (u, x) where { x free }", "(_1,_2) x=_2; end");
        // Two that have been made one.
        texts.all("x =:= y &> (y, x) where { x, y free }", "(_1,_1) x=_1,y=_1; end");
        // Each VALUE begins anew.
        texts.all("x ? y where { x, y free }", "_1 x=_1,y=_2; _1 x=_2,y=_1; end");
    }

    private static void varsOfTheNames() {
        texts.all("1 where { x, y free }", "1 x=_1,y=_2; end");
        texts.all("1 where { y, x free }", "1 y=_1,x=_2; end");
        texts.all("z where { x, y, z free }", "_1 x=_2,y=_3,z=_1; end");
        texts.all("x =:= y &> z where { x, y, z, w free }", "_1 x=_2,y=_2,z=_1,w=_3; end");
        texts.all("x =:= [y, z] &> z where { x, y, z free }", "_1 x=[_2,_1],y=_2,z=_1; end");
        texts.all("x =:= (1 : y) &> () where { z, x, y free }", "() z=_1,x=1 : _2,y=_2; end");
        // The numbers of a name do not depend on whether those ahead of it were asked for.
        Tongue t = new Tongue();
        t.askGood(0, 1, "w where { x, y, z, w free }");
        t.tongue.next();
        checks.same("the third", t.show(6, 2), "_4");
        checks.same("the first", t.show(6, 0), "_2");
        checks.same("the last", t.show(6, 3), "_1");
        checks.same("the VALUE", t.show(5, 0), "_1");
        t = new Tongue();
        t.askGood(0, 1, "x =:= (y, z) &> y where { x, y, z, w free }");
        t.tongue.next();
        checks.same("the last", t.show(6, 3), "_3");
        checks.same("the one ahead", t.show(6, 2), "_2");
        checks.same("the first", t.show(6, 0), "(_1,_2)");
    }

    /** What a VAR is BOUND to later is printed, though it was FREE when NORMAL FORM came to it. */
    private static void varsBoundLater() {
        texts.all("(x, x =:= 1) where { x free }", "(1,True) x=1; end");
        texts.all("(x, x =:= [1]) where { x free }", "([1],True) x=[1]; end");
        texts.all("(x, x =:= y, y) where { x, y free }", "(_1,True,_1) x=_1,y=_1; end");
        texts.all("(x, not x) where { x free }", "(False,True) x=False; (True,False) x=True; end");
        texts.all("[1 : x, x =:= [2] &> []] where { x free }", "[[1,2],[]] x=[2]; end");
        // What a VALUE was stays, when the next one is looked for.
        Tongue t = new Tongue();
        t.askGood(0, 1, "(x, not x) where { x free }");
        t.tongue.next();
        t.tongue.next();
        t.tongue.next();
        checks.same("the last one", t.show(5, 0) + t.show(6, 0), "(True,False)True");
    }

    private static void manyVars() {
        texts.all("[a, b, c, d, e, f, g, h, i, j, k] where { a, b, c, d, e, f, g, h, i, j, k free }",
            "[_1,_2,_3,_4,_5,_6,_7,_8,_9,_10,_11] a=_1,b=_2,c=_3,d=_4,e=_5,f=_6,g=_7,h=_8,i=_9,j=_10,k=_11; end");
        StringBuilder names = new StringBuilder();
        StringBuilder value = new StringBuilder();
        for (int i = 1; i <= 101; i++) {
            names.append(i == 1 ? "" : ", ").append('x').append(i);
            value.append(i == 1 ? "" : ",").append('_').append(i);
        }
        Tongue t = new Tongue();
        t.askGood(0, 1, "[" + names + "] where { " + names + " free }");
        t.tongue.next();
        checks.same("101 VARS", t.show(5, 0), "[" + value + "]");
        checks.same("the last one", t.show(6, 100), "_101");
        checks.same("none behind", t.show(6, 101), null);
    }

    // ---- large ones

    private static void deepValues() {
        Tongue t = Tongue.with("data S = Z | S S\nf :: S -> S\nf x = let { a = S x; b = S a; c = S b; d = S c } in S d\n"
            + "g :: S -> S\ng x = f (f (f (f (f x))))\nh :: [a] -> [[a]]\nh x = [x]\n");
        StringBuilder query = new StringBuilder("Z");
        for (int i = 0; i < 29; i++) {
            query.insert(0, "g (").append(')');
        }
        t.askGood(0, 1, query.toString());
        checks.same("725 constructors in one another", t.tongue.next(), 1);
        StringBuilder due = new StringBuilder("S Z");
        for (int i = 1; i < 725; i++) {
            due.insert(0, "S (").append(')');
        }
        checks.same("725 constructors in one another", t.show(5, 0), due.toString());
        StringBuilder open = new StringBuilder("x");
        StringBuilder dueOpen = new StringBuilder("_1");
        for (int i = 0; i < 30; i++) {
            open.insert(0, "(").append(") : y").append(i);
            dueOpen.insert(0, i == 0 ? "" : "(").append(i == 0 ? "" : ")").append(" : _").append(i + 2);
        }
        StringBuilder names = new StringBuilder("x");
        for (int i = 0; i < 30; i++) {
            names.append(", y").append(i);
        }
        t.askGood(0, 1, open + " where { " + names + " free }");
        checks.same("30 open lists in one another", t.tongue.next(), 1);
        checks.same("30 open lists in one another", t.show(5, 0), dueOpen.toString());
    }

    /** A list whose VALUE has 65194 bytes and those of a last list of INTS, of so many digits each. */
    private static String longList(int... digits) {
        StringBuilder text = new StringBuilder("let { m = 999999999 * 999999999 * 9; e = [m");
        for (int i = 1; i < 28; i++) {
            text.append(",m");
        }
        text.append("] } in [");
        for (int i = 0; i < 116; i++) {
            text.append("e,");
        }
        text.append('[');
        for (int i = 0; i < digits.length; i++) {
            text.append(i == 0 ? "" : ",").append("123456789", 0, digits[i]);
        }
        return text.append("]]").toString();
    }

    private static String longValue(int... digits) {
        StringBuilder e = new StringBuilder("[8999999982000000009");
        for (int i = 1; i < 28; i++) {
            e.append(",8999999982000000009");
        }
        StringBuilder text = new StringBuilder("[");
        for (int i = 0; i < 116; i++) {
            text.append(e).append("],");
        }
        text.append('[');
        for (int i = 0; i < digits.length; i++) {
            text.append(i == 0 ? "" : ",").append("123456789", 0, digits[i]);
        }
        return text.append("]]").toString();
    }

    private static void longLists() {
        int[][] ends = {{5, 3}, {5, 4}, {5, 5}, {6, 5}, {9, 9}};
        for (int i = 0; i < ends.length; i++) {
            int[] digits = new int[35];
            java.util.Arrays.fill(digits, 9);
            digits[33] = ends[i][0];
            digits[34] = ends[i][1];
            String value = longValue(digits);
            checks.same("how long the VALUE is", value.length(), i == 4 ? 65545 : 65535 + i);
            Tongue t = new Tongue();
            t.askGood(0, 1, longList(digits));
            checks.same("a VALUE", t.tongue.next(), 1);
            cut("a long VALUE", t, 5, 0, value);
            t.askGood(0, 1, "x =:= 1 : y &> () where { x, y free }");
            t.tongue.next();
            checks.same("a short one behind it", t.show(6, 0), "1 : _1");
            checks.holds("leaves nothing of it", t.lacksByte(6));
        }
    }

    /** Looks whether the OUT has the first 65536 bytes, and no more. */
    private static void cut(String what, Tongue t, int show, int i, String due) {
        int length = Math.min(due.length(), ROOM);
        what = what + " of " + due.length();
        checks.same(what, t.tongue.show(show, i), length);
        checks.same(what + ": how many bytes the OUT has", t.tongue.count(2), length);
        StringBuilder got = new StringBuilder();
        for (int k = 0; k < length; k++) {
            got.append((char) t.tongue.byteOf(k));
        }
        checks.holds(what + ": the bytes", got.toString().equals(due.substring(0, length)));
        checks.holds(what + ": none behind", t.lacksByte(length));
    }

    /** Of what a name is for a VALUE, of constructors with long names. */
    private static void longNames() {
        char[] letters = new char[1000];
        java.util.Arrays.fill(letters, 'q');
        String name = "Q" + new String(letters);
        for (int more = 0; more < 3; more++) {
            // 65 times 1001 bytes, 65 commas, and the brackets are 65132; the last constructor has what is left.
            String last = name.substring(0, 65535 + more - 65132);
            Tongue t = Tongue.with("data Long = " + name + " | " + last + "\n");
            StringBuilder query = new StringBuilder();
            StringBuilder due = new StringBuilder("[");
            for (int i = 0; i < 65; i++) {
                query.append("a : ");
                due.append(name).append(',');
            }
            due.append(last).append(']');
            // Sixteen at most are in one Row.
            String rows = query.substring(0, 64 - 4);
            String list = "let { a = " + name + "; b = \\u -> " + rows + "u } in b (b (b (b (a : a : a : a : a : [" + last + "]))))";
            t.askGood(0, 1, "x =:= (" + list + ") &> 1 where { x free }");
            checks.same("a VALUE", t.tongue.next(), 1);
            checks.same("how long it is", due.length(), 65535 + more);
            cut("what a name is", t, 6, 0, due.toString());
            checks.same("the VALUE itself", t.show(5, 0), "1");
        }
    }

    /** Pairs in one another: so many have a type of 7 * 2 ^ n - 4 bytes. */
    private static final int PAIRS = 14;

    private static String exprOfType(int length) {
        for (int i = PAIRS - 1; i >= 0; i--) {
            int left = length - ((7 << i) - 4) - 4;
            if (left >= 2) {
                return "(p" + i + ", " + exprOfType(left) + ")";
            }
        }
        return new String[] {"()", "1", "True", "[1]", "[True]", "[[1]]", "[[True]]"}[length - 2];
    }

    private static String typeOf(int length) {
        for (int i = PAIRS - 1; i >= 0; i--) {
            int left = length - ((7 << i) - 4) - 4;
            if (left >= 2) {
                return "(" + pairs(i) + ", " + typeOf(left) + ")";
            }
        }
        return new String[] {"()", "Int", "Bool", "[Int]", "[Bool]", "[[Int]]", "[[Bool]]"}[length - 2];
    }

    private static String pairs(int n) {
        String type = "Int";
        for (int i = 0; i < n; i++) {
            type = "(" + type + ", " + type + ")";
        }
        return type;
    }

    private static void longTypes() {
        StringBuilder block = new StringBuilder("let { p0 = 1");
        for (int i = 1; i < PAIRS; i++) {
            block.append("; p").append(i).append(" = (p").append(i - 1).append(", p").append(i - 1).append(')');
        }
        block.append(" } in ");
        int[] lengths = {65535, 65536, 65537, 65538, 65600};
        for (int length : lengths) {
            String due = typeOf(length);
            checks.same("how long the type is", due.length(), length);
            Tongue t = new Tongue();
            t.askGood(0, 1, block + exprOfType(length));
            cut("a long type", t, 3, 0, due);
        }
    }

    /** A rule that needs so many cells of a list. */
    private static String ruleOfCells(int cells) {
        StringBuilder text = new StringBuilder("f (");
        for (int i = 0; i < cells; i++) {
            text.append("_:");
        }
        return text.append("_) = 1\n").toString();
    }

    private static String treeOfCells(int cells, int rule) {
        StringBuilder text = new StringBuilder();
        StringBuilder position = new StringBuilder("1");
        for (int i = 0; i < cells; i++) {
            text.append(position).append("{::");
            position.append(".2");
        }
        text.append('#').append(rule);
        for (int i = 0; i < cells; i++) {
            text.append('}');
        }
        return text.toString();
    }

    /** A rule of cells, and one that needs nothing, in turn: as many RUNS. */
    private static void longTrees() {
        for (int more = -1; more <= 1; more++) {
            int[] cells = cellsOfATree(ROOM + more);
            StringBuilder module = new StringBuilder("f :: [a] -> Int\n");
            StringBuilder tree = new StringBuilder("[");
            for (int i = 0; i < cells.length; i++) {
                module.append(cells[i] == 0 ? "f _ = 1\n" : ruleOfCells(cells[i]));
                tree.append(i == 0 ? "" : ",").append(treeOfCells(cells[i], i + 1));
            }
            tree.append(']');
            checks.same("how long the TREE is", tree.length(), ROOM + more);
            Tongue t = Tongue.with(module.toString());
            cut("a long TREE", t, 2, 28, tree.toString());
            checks.same("its RUNS", t.tongue.fact(28, 3), 1);
        }
    }

    /** Cells of rules, 0 in turn, whose TREE has so many bytes. */
    private static int[] cellsOfATree(int length) {
        int[] cells = new int[41];
        int left = length - 2 - 40;
        for (int i = 0; i < cells.length; i++) {
            cells[i] = i % 2 == 0 && i < 34 ? 59 : 0;
            left -= bytesOfCells(cells[i]) + (i + 1 < 10 ? 2 : 3);
        }
        for (int a = 1; a < 60; a++) {
            for (int b = a; b < 60; b++) {
                for (int c = b; c < 60; c++) {
                    for (int d = c; d < 60; d++) {
                        if (bytesOfCells(a) + bytesOfCells(b) + bytesOfCells(c) + bytesOfCells(d) == left) {
                            cells[34] = a;
                            cells[36] = b;
                            cells[38] = c;
                            cells[40] = d;
                            return cells;
                        }
                    }
                }
            }
        }
        throw new IllegalStateException("there is no TREE of " + length);
    }

    private static int bytesOfCells(int cells) {
        return cells * cells + 4 * cells;
    }
}
