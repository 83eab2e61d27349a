/**
 * The calls of the face, at the edges that the document names, and directly on either side of them; what is
 * refused, or throws, changes nothing but the TAPE and what fault() tells.
 */
public final class CallsTest {
    private static final Checks checks = new Checks();
    private static final int LEAST = Integer.MIN_VALUE;
    private static final int MOST = Integer.MAX_VALUE;
    /** A module whose functions are number 28 (two arguments, three rules) and 29 (without rules). */
    private static final String MODULE = "pick :: Int -> Bool -> Int\npick x True = x\npick 0 _ = 1\npick 1 _ = 2\nopen :: Int\n";
    private static final int PICK = 28;
    private static final int OPEN = 29;

    public static void main(String[] args) {
        aNewObject();
        bytesOfFeed();
        feedsOfALife();
        endsOfATape();
        endCutsTheTape();
        tapeIsEmptiedWhateverIsAnswered();
        moduleThatIsGood();
        moduleThatIsRefused();
        askThatIsGood();
        askThatIsRefused();
        waysAndBounds();
        kindsOfFaults();
        nextAtItsEnds();
        nextWithoutASearch();
        nextWhenSpent();
        decisionsOfAValue();
        decisionsWithoutAValue();
        countsOfWhat();
        countsOfASearch();
        countsOfCapsules();
        factsOfAFunction();
        showsOfFunctions();
        showsOfASearch();
        showsOfAValue();
        bytesOfTheOut();
        checks.end();
    }

    // ---- Promise 1

    private static void aNewObject() {
        Tongue t = new Tongue();
        checks.same("the prelude's functions", t.tongue.count(0), 28);
        checks.same("they come first", t.show(0, 0) + " " + t.show(0, 27), "+ failed");
        t = new Tongue();
        for (int what = 1; what <= 13; what++) {
            checks.same("count of a new object, what " + what, t.tongue.count(what), 0);
        }
        checks.holds("no byte of the OUT", t.lacksByte(0));
        checks.holds("no DECISION", t.lacksDecision(0));
        checks.holds("no SEARCH", t.refusesNext());
        checks.same("no FAULT was told", t.tongue.fault(), 0);
        for (int what = 3; what <= 6; what++) {
            checks.same("show of a new object, what " + what, t.show(what, 0), null);
        }
        checks.same("an empty TAPE is a module", t.tongue.module(), 0);
        checks.same("and no Query", t.tongue.ask(0, 1), -1);
        // Two objects have nothing in common.
        Tongue other = Tongue.with(MODULE);
        checks.same("functions of the other one", other.tongue.count(0), 30);
        checks.same("functions of this one", t.tongue.count(0), 28);
    }

    // ---- Promises 2 and 3

    private static void bytesOfFeed() {
        // Each of the twenty bytes in turn is the one that can't stand; all others are blanks.
        for (int place = 0; place < 20; place++) {
            ChoiceTongue x = new ChoiceTongue();
            int[] n = {0x20202020, 0x20202020, 0x20202020, 0x20202020, 0x20202020};
            n[place / 4] ^= 0x20 << (24 - 8 * (place % 4));
            checks.holds("feed", x.feed(n[0], n[1], n[2], n[3], n[4]));
            checks.same("the byte at " + place, x.module(), -1 - place);
            checks.same("it can't stand", x.fault(), 1);
        }
        // The highest byte of a number below 0 is one from 128 on: in a NOTE it can stand.
        ChoiceTongue x = new ChoiceTongue();
        checks.holds("feed", x.feed(0x2d2d20ff, 0xffffffff, 0x80808080, LEAST, 0x0a202031));
        checks.same("behind the NOTE stands 1", x.ask(0, 1), 0);
        checks.same("which has a VALUE", x.next(), 1);
        checks.same("of one byte", x.show(5, 0), 1);
        checks.same("which is 1", x.byteOf(0), '1');
    }

    private static void feedsOfALife() {
        // 32768 bytes are not come to within 512 calls: no feed of them is one too many.
        ChoiceTongue x = new ChoiceTongue();
        for (int i = 0; i < 510; i++) {
            checks.holds("feed " + i, x.feed(0x20202020, 0x20202020, 0x20202020, 0x20202020, 0x20202020));
        }
        checks.same("all of it counts", x.count(1), 10200);
        checks.same("and is read", x.module(), 0);
        x = new ChoiceTongue();
        for (int i = 0; i < 511; i++) {
            checks.holds("feed " + i, x.feed(0x20202020, 0x20202020, 0x20202020, 0x20202020, i == 510 ? 0x20202023 : 0x20202020));
        }
        checks.same("the last byte, an OPERATOR, can't stand", x.module(), -1 - 10219);
    }

    private static void endsOfATape() {
        int[] refused = {LEAST, -2, -1, 21, 22, 40, 32768, 32769, MOST};
        for (int n : refused) {
            Tongue t = Tongue.with(MODULE);
            t.write("12 +   3            ");
            String before = t.state();
            checks.holds("end " + n + " of 20 is refused", !t.tongue.end(n));
            checks.same("end " + n + " changes nothing", t.state(), before);
            checks.same("the TAPE is as it was", t.tongue.ask(0, 1), 0);
            t.tongue.next();
            checks.same("the TAPE is as it was", t.show(5, 0), "15");
        }
        for (int n = 0; n <= 20; n++) {
            ChoiceTongue x = new ChoiceTongue();
            x.feed(0, 0, 0, 0, 0);
            checks.holds("end " + n + " of 20", x.end(n));
            checks.same("so many count", x.count(1), n);
            checks.holds("and no more", !x.end(n + 1));
            checks.holds("but so many", x.end(n));
        }
        ChoiceTongue x = new ChoiceTongue();
        checks.holds("end 0 of 0", x.end(0));
        checks.holds("end 1 of 0", !x.end(1));
        checks.holds("end -1 of 0", !x.end(-1));
        checks.same("none", x.count(1), 0);
    }

    private static void endCutsTheTape() {
        Tongue t = new Tongue();
        t.write("1 + 2 + )");
        checks.holds("the first five bytes", t.tongue.end(5));
        checks.same("are 1 + 2", t.first(""), "3");
        t.write("123456789");
        checks.holds("an INT is cut", t.tongue.end(3));
        t.write("4 - ");
        checks.holds("and what is fed comes behind that", t.tongue.end(5));
        checks.same("123 and 4", t.first(""), "1234");
        t.write("1");
        checks.holds("all of it is gone", t.tongue.end(0));
        checks.same("2 alone", t.first("2"), "2");
    }

    private static void tapeIsEmptiedWhateverIsAnswered() {
        Tongue t = new Tongue();
        t.module("f :: Int\n");
        checks.same("a good module", t.tongue.count(1), 0);
        t.module("f :: Itn\n");
        checks.same("a faulty module", t.tongue.count(1), 0);
        t.ask(0, 1, "1");
        checks.same("a good Query", t.tongue.count(1), 0);
        t.ask(0, 1, "1 +");
        checks.same("a faulty Query", t.tongue.count(1), 0);
        t.write("1");
        t.refusesAsk(3, 1);
        checks.same("a way that is none", t.tongue.count(1), 0);
        t.write("1");
        t.refusesAsk(0, 0);
        checks.same("a bound that is none", t.tongue.count(1), 0);
        t.write("1");
        t.tongue.next();
        checks.same("others leave the TAPE", t.tongue.count(1), 1);
    }

    // ---- Promises 4 and 5

    /** An object with a module, a SEARCH that has told one of three VALUES, an OUT and a FAULT. */
    private static Tongue underWay() {
        Tongue t = Tongue.with(MODULE);
        t.ask(0, 1, "pick 1 2 3");
        t.askGood(0, 1, "((7 ? (8 ? 9)), x) where { x free }");
        t.tongue.next();
        t.show(0, PICK);
        return t;
    }

    /** Looks whether all is as underWay() left it, and the SEARCH goes on. */
    private static void goesOn(String what, Tongue t) {
        Tongue other = underWay();
        checks.same(what + ": OUT", t.tongue.count(2), 4);
        checks.same(what + ": OUT", "" + (char) t.tongue.byteOf(0) + (char) t.tongue.byteOf(3), "pk");
        checks.same(what + ": the names of the SEARCH stay", t.show(3, 0) + t.show(4, 0) + t.show(4, 1), "(Int, a)xnull");
        checks.same(what + ": the latest VALUE stays", t.show(5, 0) + t.show(6, 0), "(7,_1)_1");
        other.show(6, 0);
        String[] state = t.state().split(" ");
        String[] due = other.state().split(" ");
        checks.same(what + ": as many answers", state.length, due.length);
        for (int i = 0; i < state.length && i < due.length; i++) {
            // Place 14 is what fault() tells.
            if (i != 14) {
                checks.same(what + ": answer " + i, state[i], due[i]);
            }
        }
        checks.same(what + ": the module stays", t.show(0, PICK) + t.show(1, PICK) + t.show(2, PICK), "pickInt -> Bool -> Int[2{True:#1},1{0:#2,1:#3}]");
        checks.same(what + ": next", t.tongue.next(), 1);
        checks.same(what + ": the second VALUE", t.show(5, 0), "(8,_1)");
        checks.same(what + ": its DECISIONS", t.decisions(), " 1 0");
        checks.same(what + ": next", t.tongue.next(), 1);
        checks.same(what + ": the third VALUE", t.show(5, 0), "(9,_1)");
        checks.same(what + ": next", t.tongue.next(), 0);
    }

    private static void moduleThatIsGood() {
        Tongue t = underWay();
        int told = t.tongue.fault();
        checks.same("a good module", t.module("one :: Int\none = 1\n"), 0);
        checks.same("it is in place of the one before", t.tongue.count(0), 29);
        checks.same("the OUT stays", t.tongue.count(2), 4);
        checks.same("what was told stays", t.tongue.fault(), told);
        withoutASearch("behind a good module", t);
        checks.same("what was is gone", t.ask(0, 1, "pick"), -1);
        checks.same("what is new is there", t.first("one"), "1");
        t = underWay();
        checks.same("an empty module", t.tongue.module(), 0);
        checks.same("the prelude alone", t.tongue.count(0), 28);
        withoutASearch("behind an empty module", t);
        t = underWay();
        checks.same("the same module", t.module(MODULE), 0);
        withoutASearch("behind the same module", t);
    }

    private static void withoutASearch(String what, Tongue t) {
        for (int i = 3; i <= 13; i++) {
            checks.same(what + ": count " + i, t.tongue.count(i), 0);
        }
        for (int i = 3; i <= 6; i++) {
            int out = t.tongue.count(2);
            checks.same(what + ": show " + i, t.show(i, 0), null);
            checks.same(what + ": the OUT stays", t.tongue.count(2), out);
        }
        checks.holds(what + ": next", t.refusesNext());
        checks.holds(what + ": decision", t.lacksDecision(0));
    }

    private static void moduleThatIsRefused() {
        String[][] texts = {
            {"data T = A | B\nf :: Int\nf = '1", "1"},
            {"data T = A | B\nf :: Int\nf = ", "2"},
            {"data T = A | B\npick :: Int\npick = 1\npick :: Int\n", "3"},
            {"infix 4 <+>\n(<+>) :: Int -> Int -> Int\na <+> b = a\nf :: Int\nf = 1 <+> 2 <+> 3\n", "4"},
            {"data T a = A\nf :: T\nf = A\n", "5"},
            {"f :: Int\nf = True\n", "6"}};
        for (String[] text : texts) {
            Tongue t = underWay();
            int answer = t.module(text[0]);
            checks.holds(text[0] + " has a FAULT", answer < 0);
            checks.same(text[0] + ": its kind", t.tongue.fault(), Integer.parseInt(text[1]));
            checks.same(text[0] + ": the TAPE is empty", t.tongue.count(1), 0);
            goesOn("module refused for " + text[1], t);
            checks.same("nothing of it is known", t.ask(0, 1, "A"), -1);
            checks.same("nothing of it is known", t.tongue.fault(), 3);
            checks.same("what it declared can be declared", t.module("data T = A\nf :: T\nf = A\n"), 0);
        }
    }

    private static void askThatIsGood() {
        Tongue t = underWay();
        int told = t.tongue.fault();
        t.askGood(2, 1000, "5 ? 6");
        checks.same("what was told stays", t.tongue.fault(), told);
        checks.same("the OUT stays", t.tongue.count(2), 4);
        for (int i = 3; i <= 13; i++) {
            checks.same("counts begin anew: " + i, t.tongue.count(i), 0);
        }
        checks.same("no VALUE yet", t.show(5, 0), null);
        checks.same("no names", t.show(4, 0), null);
        checks.same("no names", t.show(6, 0), null);
        checks.holds("no DECISION yet", t.lacksDecision(0));
        checks.same("another Expr", t.show(3, 0), "Int");
        checks.same("the new SEARCH", t.tongue.next(), 1);
        checks.same("the new SEARCH", t.show(5, 0), "5");
        checks.same("the module stays", t.tongue.count(0), 30);
        // A Query asked again begins anew.
        t.askGood(0, 1, "5 ? 6");
        checks.same("anew", t.tongue.next(), 1);
        checks.same("anew", t.show(5, 0), "5");
    }

    private static void askThatIsRefused() {
        String[][] texts = {{"7 '", "1"}, {"", "2"}, {"7 +", "2"}, {"y", "3"}, {"1 == 2 == 3", "4"},
            {"set pick 1", "5"}, {"pick True", "6"}};
        for (String[] text : texts) {
            Tongue t = underWay();
            checks.holds(text[0] + " has a FAULT", t.ask(2, 1000, text[0]) < 0);
            checks.same(text[0] + ": its kind", t.tongue.fault(), Integer.parseInt(text[1]));
            checks.same(text[0] + ": the TAPE is empty", t.tongue.count(1), 0);
            goesOn("ask refused for " + text[1], t);
        }
    }

    private static void waysAndBounds() {
        int[] bounds = {LEAST, -1, 0, 1, 2, 999, 1000, 1001, MOST};
        int[] ways = {LEAST, -1, 0, 1, 2, 3, MOST};
        for (int way : ways) {
            for (int bound : bounds) {
                boolean good = way >= 0 && way <= 2 && bound >= 1 && bound <= 1000;
                Tongue t = underWay();
                int told = t.tongue.fault();
                t.write("4");
                checks.holds("ask " + way + " " + bound, t.refusesAsk(way, bound) != good);
                checks.same("ask " + way + " " + bound + ": the TAPE is empty", t.tongue.count(1), 0);
                checks.same("ask " + way + " " + bound + " tells no FAULT", t.tongue.fault(), told);
                if (good) {
                    checks.same("the new SEARCH", t.tongue.next(), 1);
                    checks.same("the new SEARCH", t.show(5, 0), "4");
                } else {
                    goesOn("ask " + way + " " + bound, t);
                }
            }
        }
        // It throws whatever the text is, and tells no FAULT of it.
        String[] texts = {"", "'", "1 +"};
        for (String text : texts) {
            Tongue t = new Tongue();
            t.write(text);
            checks.holds("ask of " + text + " throws", t.refusesAsk(0, 1001));
            checks.same("no FAULT was told", t.tongue.fault(), 0);
            checks.same("the TAPE is empty", t.tongue.count(1), 0);
            checks.holds("no SEARCH", t.refusesNext());
        }
    }

    // ---- Promise 6

    private static void kindsOfFaults() {
        Tongue t = new Tongue();
        checks.same("before", t.tongue.fault(), 0);
        t.module("f :: Int\n");
        t.ask(0, 1, "f");
        checks.same("none was told yet", t.tongue.fault(), 0);
        String[] texts = {"'", "(", "x", "1 == 2 == 3", "set f 1", "not 1"};
        for (int i = 0; i < texts.length; i++) {
            t.ask(0, 1, texts[i]);
            checks.same("of " + texts[i], t.tongue.fault(), i + 1);
            t.ask(0, 1, "1");
            t.tongue.next();
            checks.same("stays behind a good Query", t.tongue.fault(), i + 1);
            t.module("f :: Int\n");
            checks.same("stays behind a good module", t.tongue.fault(), i + 1);
        }
        t.module("f :: Itn\n");
        checks.same("of a module", t.tongue.fault(), 3);
    }

    // ---- Promises 7 and 8

    private static void nextAtItsEnds() {
        Tongue t = new Tongue();
        t.askGood(0, 1, "failed");
        checks.same("none at all", t.tongue.next(), 0);
        checks.same("also if it was", t.tongue.next(), 0);
        checks.same("no VALUE", t.show(5, 0), null);
        checks.same("one PLACE", t.places(), "1 places, 1 failed");
        t.askGood(0, 1, "1");
        checks.same("one", t.tongue.next(), 1);
        checks.same("then none", t.tongue.next(), 0);
        String before = t.state();
        checks.same("then none", t.tongue.next(), 0);
        checks.same("which changes nothing", t.state(), before);
        checks.same("the VALUE stays", t.show(5, 0), "1");
    }

    private static void nextWithoutASearch() {
        Tongue t = Tongue.with(MODULE);
        t.show(0, PICK);
        t.write("12");
        String before = t.state();
        checks.holds("next throws", t.refusesNext());
        checks.same("and changes nothing", t.state(), before);
        checks.same("nor the TAPE", t.first(""), "12");
    }

    private static void nextWhenSpent() {
        Tongue t = Tongue.with("n :: Int -> Int\nn x = x ? n (x + 1)\n");
        t.askGood(0, 1, "n 0");
        // Each VALUE has a DECISION of its own ahead of it: 500 of each are 1000 PLACES.
        for (int i = 0; i < 500; i++) {
            t.tongue.next();
        }
        checks.same("1000 PLACES", t.places(), "1000 places, 500 values");
        checks.same("the last VALUE", t.show(5, 0), "499");
        checks.same("SPENT", t.tongue.next(), 2);
        checks.same("also if it was", t.tongue.next(), 2);
        checks.same("no PLACE more", t.places(), "1000 places, 500 values");
        checks.same("the VALUE stays", t.show(5, 0), "499");
        checks.same("its DECISIONS stay", t.tongue.count(11), 500);
        checks.holds("the first one", t.tongue.decision(0) == 1 && t.tongue.decision(499) == 0);
        checks.holds("none behind", t.lacksDecision(500));
        t.askGood(0, 1, "1");
        checks.same("another SEARCH is not SPENT", t.tongue.next(), 1);
    }

    private static void decisionsOfAValue() {
        Tongue t = Tongue.with(MODULE);
        t.askGood(0, 1, "(1 ? 2, (3 ? 4) ? (5 ? 6))");
        checks.same("a VALUE", t.tongue.next(), 1);
        checks.same("three", t.tongue.count(11), 3);
        checks.same("of the first VALUE", t.decisions(), " 0 0 0");
        checks.same("a VALUE", t.tongue.next(), 1);
        checks.same("of the second VALUE", t.decisions(), " 0 0 1");
        checks.same("a VALUE", t.tongue.next(), 1);
        checks.same("of the third VALUE", t.decisions(), " 0 1 0");
        String before = t.state();
        int[] none = {LEAST, -1, 3, 4, MOST};
        for (int i : none) {
            checks.holds("there is no DECISION " + i, t.lacksDecision(i));
        }
        checks.same("what throws changes nothing", t.state(), before);
        // ALTERNATIVES of OR, BRANCH (in the order of the data) and label are counted from 0 on.
        t.askGood(0, 1, "pick 1 x where { x free }");
        t.tongue.next();
        checks.same("one ALTERNATIVE of an OR", t.decisions(), " 0");
        t.tongue.next();
        checks.same("the other one", t.decisions(), " 1");
        t.askGood(0, 1, "not x where { x free }");
        t.tongue.next();
        checks.same("False is first", t.show(5, 0) + t.decisions(), "True 0");
        t.tongue.next();
        checks.same("True behind", t.show(5, 0) + t.decisions(), "False 1");
        t.askGood(0, 1, "span x 5 9 &> label [x] &> x where { x free }");
        for (int i = 0; i < 5; i++) {
            t.tongue.next();
            checks.same("of the ways of label", t.show(5, 0) + t.decisions(), (5 + i) + " " + i);
        }
        checks.same("no more", t.tongue.next(), 0);
        checks.same("of the latest VALUE", t.decisions(), " 4");
    }

    private static void decisionsWithoutAValue() {
        Tongue t = new Tongue();
        checks.holds("no SEARCH", t.lacksDecision(0));
        t.askGood(0, 1, "1 ? 2");
        checks.holds("no VALUE yet", t.lacksDecision(0));
        t.askGood(0, 1, "failed ? failed");
        checks.same("no VALUE", t.tongue.next(), 0);
        checks.holds("no VALUE at all", t.lacksDecision(0));
        checks.same("nor its DECISIONS", t.tongue.count(11), 0);
        t.askGood(0, 1, "3");
        t.tongue.next();
        checks.holds("a VALUE without DECISIONS", t.lacksDecision(0));
        checks.holds("a VALUE without DECISIONS", t.lacksDecision(-1));
        // Those of a CAPSULE are not on the PATH of the VALUE.
        t.module("two :: Int\ntwo = 1 ? 2\n");
        t.askGood(0, 1, "set two");
        t.tongue.next();
        checks.same("the DECISION of a CAPSULE", t.show(5, 0) + t.decisions(), "[1,2]");
        checks.holds("is none of the PATH", t.lacksDecision(0));
    }

    // ---- Promise 9

    private static void countsOfWhat() {
        Tongue t = underWay();
        int[] none = {LEAST, -2, -1, 14, 15, MOST};
        for (int what : none) {
            checks.same("count of " + what, t.tongue.count(what), ChoiceTongue.NONE);
        }
        for (int what = 0; what <= 13; what++) {
            checks.holds("count of " + what, t.tongue.count(what) >= 0);
        }
        goesOn("behind counts", t);
    }

    private static void countsOfASearch() {
        Tongue t = Tongue.with("lp :: Int -> Int\nlp x = lp x\n");
        // DECISION, VALUE; DECISION, FAILED; DECISION, WAITING; DECISION, GIVEN UP, CUT.
        t.askGood(2, 4, "1 ? (failed ? ((x + 1) ? (lp 0 ? (2 ? 3)))) where { x, y, z free }");
        int[][] due = {{2, 1, 0, 0, 0, 0}, {9, 1, 1, 1, 1, 1}};
        checks.same("no PLACES yet", t.places(), "0 places");
        checks.same("names declared free", t.tongue.count(13), 3);
        for (int i = 0; i < due.length; i++) {
            checks.same("next " + i, t.tongue.next(), i == 0 ? 1 : 0);
            for (int what = 3; what <= 8; what++) {
                checks.same("next " + i + " count " + what, t.tongue.count(what), due[i][what - 3]);
            }
            // A STEP of ? costs 1 and the WEIGHT of = x; the VALUE and three free names are four HEADS.
            checks.same("of the latest VALUE", t.costs(), "7 1 1 0");
        }
        t.askGood(0, 1, "failed");
        t.tongue.next();
        checks.same("without a VALUE", t.costs(), "0 0 0 0");
    }

    private static void countsOfCapsules() {
        Tongue t = Tongue.with("two :: Int -> Int\ntwo x = 1 ? (2 ? failed)\nbnd :: Int -> Int\nbnd x = let { y free } in y =:= x &> y\n");
        // STEPS: of two, of ? to 1, to the other one, of that one to 2, and to failed, which has none.
        t.askGood(0, 1, "set two 0");
        t.tongue.next();
        int steps = t.tongue.count(10);
        checks.same("STEPS of all paths of a CAPSULE", t.show(5, 0) + " " + steps, "[1,2] 5");
        t.askGood(0, 1, "set bnd 7");
        t.tongue.next();
        checks.same("what is BOUND in a CAPSULE", t.show(5, 0) + " " + t.tongue.count(12), "[7] 1");
    }

    // ---- Promise 10

    private static void factsOfAFunction() {
        Tongue t = underWay();
        int[][] due = {{2, 3, 2, 1, 0, 0}, {0, 0, 0, 0, 0, 1}};
        for (int f = PICK; f <= OPEN; f++) {
            for (int what = 0; what <= 5; what++) {
                checks.same("fact " + f + " " + what, t.tongue.fact(f, what), due[f - PICK][what]);
            }
        }
        int[] functions = {LEAST, -2, -1, 30, 31, MOST};
        for (int f : functions) {
            for (int what = -1; what <= 6; what++) {
                checks.same("no function " + f, t.tongue.fact(f, what), ChoiceTongue.NONE);
            }
        }
        int[] whats = {LEAST, -2, -1, 6, 7, MOST};
        for (int what : whats) {
            checks.same("no fact " + what, t.tongue.fact(0, what), ChoiceTongue.NONE);
            checks.same("no fact " + what, t.tongue.fact(PICK, what), ChoiceTongue.NONE);
        }
        for (int what = 0; what <= 5; what++) {
            checks.holds("the first function", t.tongue.fact(0, what) >= 0);
        }
        goesOn("behind facts", t);
        t.tongue.module();
        checks.holds("the last of the prelude", t.tongue.fact(27, 0) == 0);
        checks.same("none behind it", t.tongue.fact(28, 0), ChoiceTongue.NONE);
    }

    // ---- Promise 11

    private static void showsOfFunctions() {
        Tongue t = underWay();
        int[] none = {LEAST, -1, 30, 31, MOST};
        for (int what = 0; what <= 2; what++) {
            for (int i : none) {
                checks.same("show " + what + " " + i, t.show(what, i), null);
            }
        }
        int[] whats = {LEAST, -2, -1, 7, 8, MOST};
        for (int what : whats) {
            checks.same("show " + what, t.show(what, 0), null);
            checks.same("show " + what, t.show(what, PICK), null);
        }
        goesOn("behind shows that are none", t);
        checks.same("the last function", t.show(0, OPEN) + " :: " + t.show(1, OPEN), "open :: Int");
        checks.same("an empty TREE is a text", t.show(2, OPEN), "");
        checks.same("and the OUT is empty", t.tongue.count(2), 0);
        checks.holds("without a byte", t.lacksByte(0));
        checks.same("an operator", t.show(0, 0), "+");
        checks.same("its type", t.show(1, 0), "Int -> Int -> Int");
        checks.same("a PRIMITIVE has no TREE", t.show(2, 0), "");
    }

    private static void showsOfASearch() {
        Tongue t = Tongue.with(MODULE);
        t.show(0, PICK);
        for (int what = 3; what <= 6; what++) {
            checks.same("no SEARCH: show " + what, t.show(what, 0), null);
        }
        checks.same("the OUT stays", t.tongue.count(2), 4);
        t.askGood(0, 1, "x where { x, y free; z = 1; w free }");
        String[] names = {"x", "y", "w"};
        for (int i = 0; i < names.length; i++) {
            checks.same("name " + i, t.show(4, i), names[i]);
            checks.same("no VALUE for it yet", t.show(6, i), null);
        }
        int[] none = {LEAST, -1, 3, 4, MOST};
        t.show(0, PICK);
        for (int i : none) {
            checks.same("no name " + i, t.show(4, i), null);
            checks.same("no name " + i, t.show(6, i), null);
            checks.same("no VALUE yet", t.show(5, i), null);
        }
        checks.same("the OUT stays", t.tongue.count(2), 4);
        for (int i : none) {
            checks.same("i is not looked at", t.show(3, i), "a");
        }
        t.askGood(0, 1, "1");
        checks.same("no names", t.show(4, 0), null);
    }

    private static void showsOfAValue() {
        Tongue t = new Tongue();
        t.askGood(0, 1, "x ? y where { x, y free }");
        t.tongue.next();
        int[] any = {LEAST, -1, 0, 1, 2, MOST};
        for (int i : any) {
            checks.same("i is not looked at", t.show(5, i), "_1");
        }
        checks.same("x is the VALUE", t.show(6, 0) + t.show(6, 1), "_1_2");
        checks.same("none behind", t.show(6, 2), null);
        checks.same("none ahead", t.show(6, -1), null);
        checks.same("the OUT stays", t.tongue.count(2), 2);
        t.tongue.next();
        checks.same("now y is", t.show(5, 0) + t.show(6, 0) + t.show(6, 1), "_1_2_1");
        checks.same("no more", t.tongue.next(), 0);
        checks.same("the latest VALUE stays", t.show(5, 0) + t.show(6, 0) + t.show(6, 1), "_1_2_1");
    }

    // ---- Promise 12

    private static void bytesOfTheOut() {
        Tongue t = underWay();
        String due = "pick";
        int[] none = {LEAST, -2, -1, 4, 5, MOST};
        for (int i : none) {
            checks.holds("there is no byte " + i, t.lacksByte(i));
        }
        for (int i = 0; i < due.length(); i++) {
            checks.same("byte " + i, t.tongue.byteOf(i), due.charAt(i));
        }
        goesOn("behind bytes", t);
        // A shorter text leaves nothing of the longer one.
        t = Tongue.with(MODULE);
        t.show(1, PICK);
        checks.same("a longer one", t.tongue.count(2), 18);
        t.show(0, PICK);
        checks.same("a shorter one", t.tongue.count(2), 4);
        checks.holds("nothing behind it", t.lacksByte(4));
        checks.holds("nothing behind it", t.lacksByte(17));
    }
}
