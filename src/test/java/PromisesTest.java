/** The promises of the document, one by one: ordinary inputs, edges, and what is refused. */
public final class PromisesTest {
    private static final String NAT = "data Nat = Z | S Nat\nadd :: Nat -> Nat -> Nat\nadd Z y = y\nadd (S x) y = S (add x y)\n";
    private static int wrong = 0;
    private static int right = 0;

    public static void main(String[] args) {
        aNewObject();
        feed();
        end();
        module();
        ask();
        fault();
        next();
        decision();
        count();
        fact();
        show();
        byteOf();
        noCallBreaks();
        System.out.println(right + " checks hold, " + wrong + " do not");
        if (wrong != 0) {
            System.exit(1);
        }
    }

    private static void same(String what, long got, long want) {
        if (got == want) {
            right++;
        } else {
            wrong++;
            System.out.println(what + " answered " + got + ", due is " + want);
        }
    }

    private static void same(String what, String got, String want) {
        if (want == null ? got == null : want.equals(got)) {
            right++;
        } else {
            wrong++;
            System.out.println(what + " answered " + got + ", due is " + want);
        }
    }

    private static void holds(String what, boolean so) {
        same(what, so ? 1 : 0, 1);
    }

    private static void aNewObject() {
        Tongue t = new Tongue();
        ChoiceTongue x = t.tongue;
        same("1: NONE", ChoiceTongue.NONE, -1);
        same("1: functions", x.count(0), 28);
        for (int what = 1; what <= 13; what++) {
            same("1: count", x.count(what), 0);
        }
        same("1: the first function", t.show(0, 0), "+");
        same("1: the last function", t.show(0, 27), "failed");
        same("1: none behind it", t.show(0, 28), null);
        same("1: no fault", x.fault(), 0);
        holds("1: no search", t.refusesNext());
        holds("1: no byte", new Tongue().lacksByte(0));
        same("1: the prelude is the module", t.ask(0, 1, "not True"), 0);
        same("1: its values", x.next(), 1);
        same("1: its value", t.show(5, 0), "False");
    }

    private static void feed() {
        Tongue t = new Tongue();
        ChoiceTongue x = t.tongue;
        holds("2: feed", x.feed(0x6e6f7420, 0x46616c73, 0x65200a20, 0x20202020, 0x20202020));
        same("2: twenty bytes", x.count(1), 20);
        same("2: the highest byte is first", x.ask(0, 1), 0);
        same("2: the tape is read", x.count(1), 0);
        same("2: value", x.next(), 1);
        same("2: value", t.show(5, 0), "True");
        ChoiceTongue y = new ChoiceTongue();
        // In the 512 calls of an object's life the TAPE never comes to the 32768 bytes at which feed says false.
        for (int i = 0; i < 508; i++) {
            holds("2: there is room", y.feed(-1, -1, -1, -1, -1));
        }
        same("2: 10160 bytes", y.count(1), 10160);
        same("2: bytes of 255 can't stand", y.module(), -1);
        same("2: a fault of bytes", y.fault(), 1);
    }

    private static void end() {
        ChoiceTongue x = new ChoiceTongue();
        holds("3: 0 of 0", x.end(0));
        holds("3: 1 of 0", !x.end(1));
        x.feed(0x31203220, 0, 0, 0, 0);
        holds("3: below 0", !x.end(-1));
        holds("3: more than there are", !x.end(21));
        same("3: refused", x.count(1), 20);
        holds("3: all", x.end(20));
        holds("3: fewer", x.end(1));
        same("3: fewer", x.count(1), 1);
        holds("3: they are gone", !x.end(2));
        same("3: the rest does not count", x.ask(0, 1), 0);
    }

    private static void module() {
        Tongue t = new Tongue();
        ChoiceTongue x = t.tongue;
        same("4: good", t.module(NAT), 0);
        same("4: functions", x.count(0), 29);
        same("4: the tape is empty", x.count(1), 0);
        t.ask(0, 1, "add Z (S Z)");
        same("4: a search", x.next(), 1);
        same("4: a fault", t.module("f :: Int\nf = g\n"), -1 - 13);
        same("4: the kind", x.fault(), 3);
        same("4: the module stays", t.show(0, 28), "add");
        same("4: the search stays", t.show(5, 0), "S Z");
        same("4: the search goes on", x.next(), 0);
        same("4: another module", t.module("one :: Int\none = 1"), 0);
        same("4: in place of the one before", t.show(0, 28), "one");
        same("4: functions", x.count(0), 29);
        holds("4: no search", t.refusesNext());
        same("4: what was is no more known", t.ask(0, 1, "add"), -1);
        same("4: no text", x.module(), 0);
        same("4: the prelude alone", x.count(0), 28);
        same("4: a note alone", t.module("-- \u00e9"), 0);
        same("4: a fault at the end", t.module("f :: "), -1 - 5);
    }

    private static void ask() {
        Tongue t = new Tongue();
        ChoiceTongue x = t.tongue;
        same("5: a query", t.ask(0, 1, "1 ? 2"), 0);
        x.next();
        int[][] refused = {{-1, 1}, {3, 1}, {0, 0}, {1, 0}, {2, 1001}, {0, -1}, {Integer.MIN_VALUE, Integer.MAX_VALUE}};
        for (int[] r : refused) {
            t.write("3");
            holds("5: refused", t.refusesAsk(r[0], r[1]));
            same("5: the tape is empty", x.count(1), 0);
            same("5: the search stays", t.show(5, 0), "1");
        }
        same("5: no fault was told", x.fault(), 0);
        same("5: a fault", t.ask(0, 1, "1 +"), -1 - 3);
        same("5: the search stays", x.next(), 1);
        same("5: the search stays", t.show(5, 0), "2");
        same("5: another one", t.ask(2, 1000, "3"), 0);
        same("5: no value yet", t.show(5, 0), null);
        same("5: counts begin anew", x.count(4), 0);
        same("5: value", x.next(), 1);
        same("5: an empty query", x.ask(0, 1), -1);
        same("5: a fault of grammar", x.fault(), 2);
    }

    private static void fault() {
        Tongue t = new Tongue();
        ChoiceTongue x = t.tongue;
        String[] texts = {"'", "(", "x", "1 == 2 == 3", "\\a b c d e f g h i j k l m n o p q -> 1", "not 1"};
        int[] places = {0, 1, 0, 7, 0, 4};
        for (int i = 0; i < texts.length; i++) {
            same("6: place", t.ask(0, 1, texts[i]), -1 - places[i]);
            same("6: kind", x.fault(), i + 1);
        }
        same("6: without a fault", t.ask(0, 1, "1"), 0);
        same("6: the latest one that was told", x.fault(), 6);
        same("6: of a module", t.module("data Bool = A"), -1 - 5);
        same("6: of a module", x.fault(), 3);
        same("6: the first kind", t.ask(0, 1, "x + ' )"), -1 - 4);
        same("6: the first kind", x.fault(), 1);
        same("6: the least place", t.ask(0, 1, "y + x"), -1);
    }

    private static void next() {
        Tongue t = new Tongue();
        ChoiceTongue x = t.tongue;
        holds("7: no search", t.refusesNext());
        t.ask(0, 1, "1 ? (failed ? 3)");
        same("7: one", x.next(), 1);
        same("7: one", t.show(5, 0), "1");
        same("7: another", x.next(), 1);
        same("7: another", t.show(5, 0), "3");
        same("7: none any more", x.next(), 0);
        same("7: none any more", x.next(), 0);
        same("7: the latest value stays", t.show(5, 0), "3");
        t.module("n :: Int -> Int\nn x = x ? n (x + 1)\n");
        t.ask(0, 1, "n 0");
        int values = 0;
        int answer = x.next();
        for (; answer == 1; answer = x.next()) {
            values++;
        }
        same("7: spent", answer, 2);
        same("7: spent", x.next(), 2);
        same("7: a thousand places", x.count(3), 1000);
        same("7: values", x.count(4), values);
    }

    private static void decision() {
        Tongue t = new Tongue();
        ChoiceTongue x = t.tongue;
        holds("8: no search", t.lacksDecision(0));
        t.ask(0, 1, "(1 ? 2, 3 ? 4)");
        holds("8: no value", t.lacksDecision(0));
        x.next();
        same("8: first", t.decisions(), " 0 0");
        x.next();
        same("8: second", t.decisions(), " 0 1");
        x.next();
        same("8: third", t.decisions(), " 1 0");
        holds("8: none behind", t.lacksDecision(2));
        holds("8: below 0", t.lacksDecision(-1));
        x.next();
        same("8: no more values", x.next(), 0);
        same("8: of the latest value", t.decisions(), " 1 1");
        t.ask(0, 1, "5");
        x.next();
        holds("8: a value without", t.lacksDecision(0));
    }

    private static void count() {
        Tongue t = new Tongue();
        ChoiceTongue x = t.tongue;
        int[] none = {-1, 14, 100, Integer.MIN_VALUE, Integer.MAX_VALUE};
        for (int what : none) {
            same("9: others", x.count(what), -1);
        }
        t.module(NAT);
        t.ask(0, 1, "add x y =:= S Z &> x where { x, y free }");
        same("9: free names", x.count(13), 2);
        same("9: no places yet", x.count(3), 0);
        x.next();
        same("9: places", x.count(3), 2);
        same("9: labour", x.count(9), 14);
        same("9: steps", x.count(10), 4);
        same("9: decisions", x.count(11), 1);
        same("9: bound", x.count(12), 3);
        x.next();
        same("9: no more", x.next(), 0);
        same("9: places", x.count(3), 5);
        same("9: values", x.count(4), 2);
        same("9: failed", x.count(5), 1);
        same("9: none waits", x.count(6), 0);
        t.show(0, 28);
        same("9: out", x.count(2), 3);
        t.ask(0, 1, "x + 1 where { x free }");
        x.next();
        same("9: waiting", x.count(6), 1);
        t.ask(2, 1, "1 ? (2 ? 3)");
        x.next();
        same("9: no more", x.next(), 0);
        same("9: cut", x.count(8), 1);
        t.module("lp :: Int -> Int\nlp x = lp x\n");
        t.ask(0, 1, "lp 0");
        same("9: no value", x.next(), 0);
        same("9: given up", x.count(7), 1);
        same("9: no value, no labour", x.count(9), 0);
    }

    private static void fact() {
        Tongue t = new Tongue();
        ChoiceTongue x = t.tongue;
        t.module(NAT + "two :: Nat -> Nat -> Int\ntwo Z _ = 1\ntwo _ Z = 2\nop :: Int -> Int\n");
        int[][] due = {{2, 2, 1, 0, 1, 1}, {2, 2, 2, 1, 0, 0}, {1, 0, 0, 0, 0, 1}};
        for (int f = 0; f < due.length; f++) {
            for (int what = 0; what <= 5; what++) {
                same("10: function " + f + " what " + what, x.fact(28 + f, what), due[f][what]);
            }
        }
        same("10: label is not single", x.fact(17, 5), 0);
        same("10: span takes", x.fact(13, 0), 3);
        same("10: no such function", x.fact(31, 0), -1);
        same("10: below 0", x.fact(-1, 0), -1);
        same("10: no such fact", x.fact(0, 6), -1);
        same("10: no such fact", x.fact(0, -1), -1);
    }

    private static void show() {
        Tongue t = new Tongue();
        ChoiceTongue x = t.tongue;
        t.module(NAT);
        same("11: name", t.show(0, 28), "add");
        same("11: an operator", t.show(0, 11), "=:=");
        same("11: type", t.show(1, 24), "(a -> b) -> (c -> a) -> c -> b");
        same("11: tree", t.show(2, 28), "1{Z:#1,S:#2}");
        same("11: no rules", t.show(2, 0), "");
        for (int what = 3; what <= 6; what++) {
            same("11: no search", t.show(what, 0), null);
        }
        t.show(0, 28);
        same("11: none such", t.show(0, 29), null);
        same("11: none such", t.show(7, 0), null);
        same("11: none such", t.show(-1, 0), null);
        same("11: the out stays", x.count(2), 3);
        t.ask(0, 1, "((x, [y]), S z, \\u -> u) where { z, y, x free }");
        same("11: type of the Expr, whatever i is", t.show(3, -5), "((a, [b]), Nat, c -> c)");
        same("11: name", t.show(4, 0), "z");
        same("11: name", t.show(4, 2), "x");
        same("11: no such name", t.show(4, 3), null);
        same("11: no such name", t.show(4, -1), null);
        same("11: no value yet", t.show(5, 0), null);
        same("11: no value yet", t.show(6, 0), null);
        x.next();
        same("11: value, whatever i is", t.show(5, 77), "((_1,[_2]),S _3,<fun>)");
        same("11: what a name is", t.show(6, 0), "_3");
        same("11: what a name is", t.show(6, 2), "_1");
        same("11: no such name", t.show(6, 3), null);
        t.module("dd :: (a, a) -> a -> Bool\ndd x y = x =:= (y, y)\n");
        String doubled = "(a, dd a b & dd b c & dd c d & dd d e & dd e f & dd f g & dd g h & dd h i & dd i j & dd j k & dd k l & dd l m & dd m n & dd n o & dd o p)";
        t.ask(0, 1, doubled + " where { a,b,c,d,e,f,g,h,i,j,k,l,m,n,o,p free }");
        same("11: the names have too many heads", x.next(), 0);
        same("11: the names have too many heads", x.count(7), 1);
        t.ask(0, 1, "let { a,b,c,d,e,f,g,h,i,j,k,l,m,n,o,p free } in " + doubled);
        same("11: what was come to while it was free is long", x.next(), 1);
        same("11: the type is long, too", x.show(3, 0), 65536);
        same("11: the first 65536 bytes count", x.show(5, 0), 65536);
        same("11: bytes", x.byteOf(65535) == '(' || x.byteOf(65535) == ',' || x.byteOf(65535) == '_' ? 1 : 0, 1);
        holds("11: no more bytes", t.lacksByte(65536));
    }

    private static void byteOf() {
        Tongue t = new Tongue();
        ChoiceTongue x = t.tongue;
        holds("12: empty", t.lacksByte(0));
        x.show(0, 27);
        same("12: first", x.byteOf(0), 'f');
        same("12: last", x.byteOf(5), 'd');
        holds("12: behind", t.lacksByte(6));
        holds("12: below 0", t.lacksByte(-1));
        holds("12: far", t.lacksByte(Integer.MAX_VALUE));
    }

    /** Any numbers in any order: no call throws but what the face names. */
    private static void noCallBreaks() {
        long seed = 12345;
        for (int object = 0; object < 40; object++) {
            Tongue t = new Tongue();
            ChoiceTongue x = t.tongue;
            for (int i = 0; i < 512; i++) {
                seed = seed * 6364136223846793005L + 1442695040888963407L;
                int a = (int) (seed >>> 33) % 40 - 4;
                int b = (int) (seed >>> 45) % 20 - 3;
                switch ((int) (seed >>> 59) % 12) {
                    case 0: t.write(PIECES[Math.floorMod(a * 31 + b, PIECES.length)]); break;
                    case 1: x.end(a); break;
                    case 2: x.module(); break;
                    case 3: t.refusesAsk(b, a + 3); break;
                    case 4: x.fault(); break;
                    case 5: case 6: t.refusesNext(); break;
                    case 7: t.lacksDecision(a); break;
                    case 8: x.count(a); break;
                    case 9: x.fact(a, b); break;
                    case 10: x.show(b, a); break;
                    default: t.lacksByte(a); break;
                }
            }
            right++;
        }
    }

    private static final String[] PIECES = {NAT, "add x y", " where { x, y free }", " ", "\n", "(", ")", "1", "x =:= S y ", "f :: Int -> Int\n",
        "f x = x\n", "set add Z (Z ? S Z)", "?", "let { x free } in x", "label [x] & span x 1 3 where { x free }", "\u0000\u00ff", "-- ", "case 1 of { 1 -> 2 }"};
}
