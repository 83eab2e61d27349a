import java.util.Arrays;
import java.util.NoSuchElementException;

/**
 * A language whose functions may have several values and whose names may be unknown.
 *
 * An object is used for at most 512 calls, each of which brings at most 20 bytes. So what it is fed
 * in its life is little, and nothing that a text became is ever moved or freed: only a text that is
 * refused is taken back. All rows are made once, by the constructors, as large as that asks for.
 */
public final class ChoiceTongue {
    public static final int NONE = -1;

    /** What 512 calls can bring: all that a text is made into is counted by that. */
    private static final int TAPE_ROOM = 512 * 20;
    private static final int OUT_ROOM = 65536;
    private static final int TOKEN_ROOM = TAPE_ROOM + 2;
    /** With names of up to three bytes, and nothing in between, 10240 bytes have not so many. */
    private static final int NAME_ROOM = 4608;
    private static final int POOL_ROOM = TAPE_ROOM + 512;
    /**
     * At most three for each byte (what stands in a Pat, its position, its check or BRANCH), and those of the
     * prelude. A cell has fifteen bits in Path.stamp.
     */
    private static final int CELL_ROOM = TAPE_ROOM * 3 + 400;
    private static final int NODE_ROOM = 33000;

    private static final int MOST_OPEN = 30;
    private static final int MOST_OPERATORS = 16;
    private static final int MOST_TAKEN = 16;
    private static final int MOST_LABOUR = 10000;
    private static final int MOST_PLACES = 1000;
    private static final int MOST_TOTAL = 300000;
    private static final int MOST_CAPSULES = 12;
    private static final int MOST_TURNS = 1000000000;
    private static final int MOST_INT = 2147483647;

    private static final int KIND_BYTES = 1;
    private static final int KIND_GRAMMAR = 2;
    private static final int KIND_NAMES = 3;
    private static final int KIND_STRENGTHS = 4;
    private static final int KIND_COUNTS = 5;
    private static final int KIND_TYPES = 6;

    /** Names with numbers of their own, in this order; those up to _ are tokens of their own, too. */
    private static final String FIXED_NAMES =
            "case data else fcase free if in infix infixl infixr let of set then where = | -> :: \\ @ : _ Int () (,) (,,) [] ";
    private static final String SIGNS = "!#$%&*+./:<=>?@\\^|-~";
    private static final String BRACKETS = "()[]{},;`";

    private static final int TOKEN_CASE = 0;
    private static final int TOKEN_DATA = 1;
    private static final int TOKEN_ELSE = 2;
    private static final int TOKEN_FCASE = 3;
    private static final int TOKEN_FREE = 4;
    private static final int TOKEN_IF = 5;
    private static final int TOKEN_IN = 6;
    private static final int TOKEN_INFIX = 7;
    private static final int TOKEN_INFIXL = 8;
    private static final int TOKEN_INFIXR = 9;
    private static final int TOKEN_LET = 10;
    private static final int TOKEN_OF = 11;
    private static final int TOKEN_SET = 12;
    private static final int TOKEN_THEN = 13;
    private static final int TOKEN_WHERE = 14;
    private static final int TOKEN_EQUALS = 15;
    private static final int TOKEN_BAR = 16;
    private static final int TOKEN_ARROW = 17;
    private static final int TOKEN_TYPED = 18;
    private static final int TOKEN_BACKSLASH = 19;
    private static final int TOKEN_AS = 20;
    private static final int TOKEN_COLON = 21;
    private static final int TOKEN_WILD = 22;
    private static final int TOKEN_NAME = 23;
    private static final int TOKEN_BIG = 24;
    private static final int TOKEN_INT = 25;
    private static final int TOKEN_OPERATOR = 26;
    /** The brackets follow in the order of BRACKETS. */
    private static final int TOKEN_ROUND = 27;
    private static final int TOKEN_ROUND_END = 28;
    private static final int TOKEN_SQUARE = 29;
    private static final int TOKEN_SQUARE_END = 30;
    private static final int TOKEN_CURLY = 31;
    private static final int TOKEN_CURLY_END = 32;
    private static final int TOKEN_COMMA = 33;
    private static final int TOKEN_SEMICOLON = 34;
    private static final int TOKEN_QUOTE = 35;
    private static final int TOKEN_END = 36;
    private static final int TOKEN_NOTHING = 37;

    private static final int NAME_COLON = 21;
    private static final int NAME_INT = 23;
    private static final int NAME_UNIT = 24;
    private static final int NAME_PAIR = 25;
    private static final int NAME_TRIPLE = 26;
    private static final int NAME_NIL = 27;

    // Codes of types: those of data come behind CODE_DATA, in the order of their numbers.
    private static final int CODE_UNKNOWN = 0;
    private static final int CODE_RIGID = 1;
    private static final int CODE_INT = 2;
    private static final int CODE_FUN = 3;
    private static final int CODE_DATA = 4;
    private static final int CODE_UNIT = 4;
    private static final int CODE_PAIR = 5;
    private static final int CODE_TRIPLE = 6;
    private static final int CODE_LIST = 7;
    private static final int CODE_BOOL = 8;

    private static final int CON_UNIT = 0;
    private static final int CON_PAIR = 1;
    private static final int CON_TRIPLE = 2;
    private static final int CON_NIL = 3;
    private static final int CON_CONS = 4;
    private static final int CON_FALSE = 5;
    private static final int CON_TRUE = 6;

    // Functions of the prelude, in the order of their signatures.
    private static final int FUN_PLUS = 0;
    private static final int FUN_MINUS = 1;
    private static final int FUN_TIMES = 2;
    private static final int FUN_DIV = 3;
    private static final int FUN_MOD = 4;
    private static final int FUN_EQUAL = 5;
    private static final int FUN_UNEQUAL = 6;
    private static final int FUN_BELOW = 7;
    private static final int FUN_AT_MOST = 8;
    private static final int FUN_ABOVE = 9;
    private static final int FUN_EQUATION = 11;
    private static final int FUN_BOTH = 12;
    private static final int FUN_SPAN = 13;
    private static final int FUN_SUM_AT_MOST = 14;
    private static final int FUN_SUM_EQUAL = 15;
    private static final int FUN_DIFFER = 16;
    private static final int FUN_LABEL = 17;
    private static final int PRIMITIVES = 18;
    private static final int FUN_AND_THEN = 19;
    private static final int FUN_NOT = 21;

    // Cells of the code. Types:
    private static final int TYPE_NAME = 1;
    private static final int TYPE_BIG = 2;
    private static final int TYPE_DATA = 3;
    // declarations:
    private static final int DECL_DATA = 4;
    private static final int DECL_PARAM = 5;
    private static final int DECL_CON = 6;
    private static final int DECL_INFIX = 7;
    private static final int DECL_OP = 8;
    private static final int DECL_SIGNATURE = 9;
    private static final int DECL_RULE = 10;
    private static final int RHS_PLAIN = 11;
    private static final int RHS_GUARDED = 12;
    private static final int RHS_GUARD = 13;
    private static final int BLOCK_IS = 14;
    private static final int BLOCK_FREE = 15;
    // patterns:
    private static final int PAT_NAME = 20;
    private static final int PAT_WILD = 21;
    private static final int PAT_INT = 22;
    private static final int PAT_BIG = 23;
    private static final int PAT_CON = 24;
    private static final int PAT_AS = 25;
    // expressions:
    private static final int EXPR_NAME = 30;
    private static final int EXPR_BIG = 31;
    private static final int EXPR_LOCAL = 32;
    private static final int EXPR_FUN = 33;
    private static final int EXPR_CON = 34;
    private static final int EXPR_INT = 35;
    private static final int EXPR_APPLY = 36;
    private static final int EXPR_SET = 37;
    private static final int EXPR_ROW = 38;
    private static final int EXPR_LAMBDA = 39;
    private static final int EXPR_SECTION = 40;
    private static final int EXPR_LET = 41;
    private static final int EXPR_IF = 42;
    private static final int EXPR_CASE = 43;
    private static final int EXPR_FCASE = 44;
    private static final int EXPR_TUPLE = 45;
    private static final int EXPR_LIST = 46;
    private static final int ALT = 47;
    // and what they are made into:
    private static final int POSITION = 50;
    private static final int BIND = 51;
    private static final int CHECK_CON = 52;
    private static final int CHECK_INT = 53;
    private static final int TREE_LEAF = 54;
    private static final int TREE_CON = 55;
    private static final int TREE_INT = 56;
    private static final int TREE_OR = 57;

    // What a NODE is now; from NODE_INT on it is a HEAD.
    private static final int NODE_EXPR = 1;
    private static final int NODE_CALL = 2;
    private static final int NODE_FCASE = 3;
    private static final int NODE_CASE = 4;
    private static final int NODE_IF = 5;
    private static final int NODE_GUARD = 6;
    private static final int NODE_APPLY = 7;
    private static final int NODE_CAPSULE = 8;
    private static final int NODE_SAME = 9;
    private static final int NODE_INT = 10;
    private static final int NODE_DATA = 11;
    private static final int NODE_VAR = 12;
    private static final int NODE_PART_FUN = 13;
    private static final int NODE_PART_CON = 14;
    private static final int NODE_PART_LAMBDA = 15;
    private static final int NODE_PART_SECTION = 16;

    // What a turn of the machine comes to.
    private static final int GO = 0;
    private static final int FAILS = 1;
    private static final int WAITS = 2;
    private static final int STUCK = 3;
    private static final int GIVEN_UP = 4;
    private static final int DECIDES = 5;
    private static final int VALUE = 6;
    private static final int BEGINS = 7;
    private static final int CHOOSES = 9;
    private static final int EVALUATES = 10;

    private static final String PRELUDE = """
            infixr 9 .
            infixl 7 *, `div`, `mod`
            infixl 6 +, -
            infixr 5 ++
            infix 4 ==, /=, <, <=, >, >=, =:=
            infixr 3 &&
            infixr 2 ||
            infixr 1 &, &>
            infixr 0 $, ?
            data Bool = False | True
            (+) :: Int -> Int -> Int
            (-) :: Int -> Int -> Int
            (*) :: Int -> Int -> Int
            div :: Int -> Int -> Int
            mod :: Int -> Int -> Int
            (==) :: a -> a -> Bool
            (/=) :: a -> a -> Bool
            (<) :: Int -> Int -> Bool
            (<=) :: Int -> Int -> Bool
            (>) :: Int -> Int -> Bool
            (>=) :: Int -> Int -> Bool
            (=:=) :: a -> a -> Bool
            (&) :: Bool -> Bool -> Bool
            span :: Int -> Int -> Int -> Bool
            atMost :: [Int] -> [Int] -> Int -> Bool
            equalTo :: [Int] -> [Int] -> Int -> Bool
            differ :: [Int] -> Bool
            label :: [Int] -> Bool
            (?) :: a -> a -> a
            x ? _ = x
            _ ? y = y
            (&&) :: Bool -> Bool -> Bool
            True && x = x
            False && _ = False
            (||) :: Bool -> Bool -> Bool
            True || _ = True
            False || x = x
            not :: Bool -> Bool
            not True = False
            not False = True
            (&>) :: Bool -> a -> a
            True &> x = x
            ($) :: (a -> b) -> a -> b
            f $ x = f x
            (.) :: (b -> c) -> (a -> b) -> a -> c
            f . g = \\x -> f (g x)
            (++) :: [a] -> [a] -> [a]
            [] ++ ys = ys
            (x : xs) ++ ys = x : xs ++ ys
            map :: (a -> b) -> [a] -> [b]
            map _ [] = []
            map f (x : xs) = f x : map f xs
            failed :: a
            """;

    private final byte[] tape = new byte[TAPE_ROOM];
    private int taped;
    private int fed;
    private int faultKind;
    private final Lexer lexer = new Lexer();
    private final Code code = new Code();
    private final Tables tables = new Tables();
    private final Parser parser = new Parser(lexer, code);
    private final Checker checker = new Checker(code, tables);
    private final Judge judge = new Judge(code, tables);
    private final Trees trees = new Trees(code, tables);
    private final Out out = new Out(lexer, tables);
    private final Search search = new Search(code, tables, out);

    public ChoiceTongue() {
        write(FIXED_NAMES);
        lexer.readFixedNames(tape, taped);
        write(PRELUDE);
        load();
        tables.keepPrelude();
    }

    private void write(String text) {
        taped = Math.min(text.length(), TAPE_ROOM);
        for (int i = 0; i < taped; i++) {
            tape[i] = (byte) text.charAt(i);
        }
    }

    public boolean feed(int a, int b, int c, int d, int e) {
        // What was ever fed is no more than 512 calls can bring.
        if (fed > TAPE_ROOM - 20 || taped > TAPE_ROOM - 20) {
            return false;
        }
        fed += 20;
        feedFour(a);
        feedFour(b);
        feedFour(c);
        feedFour(d);
        feedFour(e);
        return true;
    }

    private void feedFour(int bytes) {
        for (int shift = 24; shift >= 0 && taped < TAPE_ROOM; shift -= 8) {
            tape[taped] = (byte) (bytes >> shift);
            taped++;
        }
    }

    public boolean end(int n) {
        if (n < 0 || n > taped) {
            return false;
        }
        taped = n;
        return true;
    }

    public int module() {
        int place = load();
        if (place >= 0) {
            return -1 - place;
        }
        search.stop();
        return 0;
    }

    /** Makes the TAPE the module; answers the place of its fault, or NONE. */
    private int load() {
        int mark = code.top;
        int length = taped;
        taped = 0;
        tables.beginDraft();
        int place = faultOfTokens(length);
        int first = 0;
        if (place < 0) {
            try {
                first = parser.readModule();
            } catch (IllegalStateException e) {
                place = told(KIND_GRAMMAR, parser.bad);
            }
        }
        if (place < 0) {
            checker.checkModule(first);
            place = told(checker.kind(), checker.place());
        }
        if (place < 0) {
            judge.judgeModule(first);
            place = told(KIND_TYPES, judge.fault);
        }
        if (place < 0) {
            trees.makeModule(parser.begin);
            place = told(KIND_COUNTS, lacksRoom() ? 0 : NONE);
        }
        if (place < 0) {
            tables.takeDraft();
            return NONE;
        }
        code.top = mark;
        code.full = false;
        tables.dropDraft();
        return place;
    }

    private int faultOfTokens(int length) {
        lexer.read(tape, length);
        return told(KIND_BYTES, lexer.bad);
    }

    /** No text within 512 calls is refused for this. */
    private boolean lacksRoom() {
        return code.full || tables.full || lexer.full || trees.full;
    }

    /** The kind is kept if there is a place. */
    private int told(int kind, int place) {
        if (place >= 0) {
            faultKind = kind;
        }
        return place;
    }

    public int ask(int way, int bound) throws IllegalArgumentException {
        int length = taped;
        taped = 0;
        if (way < 0 || way > 2 || bound < 1 || bound > 1000) {
            throw new IllegalArgumentException();
        }
        int mark = code.top;
        int place = faultOfQuery(length);
        if (place >= 0) {
            code.top = mark;
            code.full = false;
            return -1 - place;
        }
        search.start(parser.query, way, bound);
        return 0;
    }

    private int faultOfQuery(int length) {
        int place = faultOfTokens(length);
        if (place < 0) {
            try {
                parser.readQuery();
            } catch (IllegalStateException e) {
                place = told(KIND_GRAMMAR, parser.bad);
            }
        }
        if (place < 0) {
            checker.checkQuery(parser.query);
            place = told(checker.kind(), checker.place());
        }
        if (place < 0) {
            judge.judgeQuery(parser.query);
            place = told(KIND_TYPES, judge.fault);
        }
        if (place < 0) {
            trees.makeCases(parser.begin, parser.query);
            place = told(KIND_COUNTS, lacksRoom() ? 0 : NONE);
        }
        return place;
    }

    public int fault() {
        return faultKind;
    }

    public int next() throws IllegalStateException {
        if (!search.alive) {
            throw new IllegalStateException();
        }
        return search.search();
    }

    public int decision(int i) throws NoSuchElementException {
        if (i < 0 || i >= search.tell(11)) {
            throw new NoSuchElementException();
        }
        return search.valueAlternatives[i];
    }

    public int count(int what) {
        if (what == 0) {
            return tables.size();
        }
        if (what == 1) {
            return taped;
        }
        if (what == 2) {
            return out.length;
        }
        return what >= 3 && what <= 13 ? search.tell(what) : NONE;
    }

    public int fact(int f, int what) {
        int fun = tables.function(f);
        if (fun < 0) {
            return NONE;
        }
        switch (what) {
            case 0: return tables.funTakes[fun];
            case 1: return tables.funRules[fun];
            case 2: return trees.countBranches(fun);
            case 3: return trees.countOrs(fun);
            case 4: return tables.funCovers[fun] ? 1 : 0;
            case 5: return tables.funSingle[fun] ? 1 : 0;
            default: return NONE;
        }
    }

    public int show(int what, int i) {
        switch (what) {
            case 0: case 1: case 2: return showFunction(what, tables.function(i));
            case 3: case 4: case 5: case 6: return search.alive ? showSearch(what, i) : NONE;
            default: return NONE;
        }
    }

    private int showFunction(int what, int fun) {
        if (fun < 0) {
            return NONE;
        }
        out.length = 0;
        if (what == 0) {
            out.name(code.a[tables.funSignature[fun]]);
        } else if (what == 1) {
            judge.begin();
            judge.print(judge.signature(fun, false), out);
        } else {
            trees.print(fun, out);
        }
        return out.length;
    }

    private int showSearch(int what, int i) {
        if (what == 3) {
            out.length = 0;
            judge.judgeQuery(search.query);
            judge.print(judge.asked, out);
            return out.length;
        }
        boolean named = i >= 0 && i < search.tell(13);
        if (what == 4 && named) {
            out.length = 0;
            out.name(search.freeName(i));
            return out.length;
        }
        if (what == 4 || !search.valued || (what == 6 && !named)) {
            return NONE;
        }
        out.length = 0;
        out.value(what == 5 ? 0 : i + 1);
        return out.length;
    }

    public int byteOf(int i) throws NoSuchElementException {
        if (i < 0 || i >= out.length) {
            throw new NoSuchElementException();
        }
        return out.byteAt(i);
    }

    /** The names of a life, each with a number, and the tokens of one text. */
    private static final class Lexer {
        private static final int BUCKETS = 1024;
        private static final int AT = 8;
        private static final int VALUE = 32;

        final byte[] pool = new byte[POOL_ROOM];
        final int[] start = new int[NAME_ROOM + 1];
        final int[] link = new int[NAME_ROOM];
        final int[] bucket = new int[BUCKETS];
        int names;
        /** Of a token: its kind, from AT on its place, from VALUE on its name or INT. */
        private final long[] token = new long[TOKEN_ROOM];
        int count;
        int bad;
        boolean full;

        void readFixedNames(byte[] text, int length) {
            int from = 0;
            for (int i = 0; i < length; i++) {
                if (text[i] == ' ') {
                    number(text, from, i);
                    from = i + 1;
                }
            }
        }

        /** The number of a name, a new one if it is new. */
        private int number(byte[] text, int from, int to) {
            int hash = 0;
            for (int i = from; i < to; i++) {
                hash = hash * 31 + text[i];
            }
            int home = hash & (BUCKETS - 1);
            for (int name = bucket[home]; name > 0; name = link[name - 1]) {
                if (isAt(name - 1, text, from, to)) {
                    return name - 1;
                }
            }
            if (names >= NAME_ROOM || start[names] + to - from > POOL_ROOM) {
                full = true;
                return 0;
            }
            System.arraycopy(text, from, pool, start[names], to - from);
            start[names + 1] = start[names] + to - from;
            link[names] = bucket[home];
            names++;
            bucket[home] = names;
            return names - 1;
        }

        private boolean isAt(int name, byte[] text, int from, int to) {
            int begin = start[name];
            if (start[name + 1] - begin != to - from) {
                return false;
            }
            for (int i = from; i < to; i++) {
                if (pool[begin + i - from] != text[i]) {
                    return false;
                }
            }
            return true;
        }

        void read(byte[] text, int length) {
            count = 0;
            bad = NONE;
            full = false;
            int i = 0;
            while (i < length && bad < 0) {
                i = readOne(text, i, length);
            }
            put(TOKEN_END, length, 0);
        }

        /** Reads a token, a note or a blank; answers where the next one begins, always further on. */
        private int readOne(byte[] text, int i, int length) {
            int b = text[i] & 255;
            if (b == 32 || b == 10) {
                return i + 1;
            }
            if (isSign(b)) {
                return readSigns(text, i, length);
            }
            if (count > 0 && text[i > 0 ? i - 1 : 0] == 10) {
                put(TOKEN_END, i, 0);
            }
            if (isDigit(b)) {
                return readInt(text, i, length);
            }
            if (isLetter(b) || b == '_') {
                return readName(text, i, length);
            }
            int bracket = BRACKETS.indexOf((char) b);
            if (bracket < 0) {
                bad = i;
                return i + 1;
            }
            put(TOKEN_ROUND + bracket, i, 0);
            return i + 1;
        }

        private int readSigns(byte[] text, int i, int length) {
            int to = i;
            boolean dashes = true;
            while (to < length && isSign(text[to] & 255)) {
                dashes = dashes && text[to] == '-';
                to++;
            }
            if (dashes && to - i >= 2) {
                while (to < length && text[to] != 10) {
                    to++;
                }
                return to;
            }
            if (count > 0 && text[i > 0 ? i - 1 : 0] == 10) {
                put(TOKEN_END, i, 0);
            }
            int name = number(text, i, to);
            put(name <= TOKEN_COLON ? name : TOKEN_OPERATOR, i, name);
            return to;
        }

        private int readInt(byte[] text, int i, int length) {
            int to = i;
            int number = 0;
            while (to < length && to < i + 9 && isDigit(text[to] & 255)) {
                number = number * 10 + text[to] - '0';
                to++;
            }
            if (to < length && isBehindName(text[to] & 255)) {
                bad = to;
            }
            put(TOKEN_INT, i, number);
            return to;
        }

        private int readName(byte[] text, int i, int length) {
            int to = i + 1;
            while (to < length && isBehindName(text[to] & 255)) {
                to++;
            }
            int name = number(text, i, to);
            int first = text[i] & 255;
            if (first >= 'A' && first <= 'Z') {
                put(TOKEN_BIG, i, name);
            } else {
                put(name <= TOKEN_WILD ? name : TOKEN_NAME, i, name);
            }
            return to;
        }

        private void put(int newKind, int newAt, int newValue) {
            if (count < TOKEN_ROOM) {
                token[count] = (long) newValue << VALUE | newAt << AT | newKind;
                count++;
            }
        }

        int kind(int i) {
            return i < count ? (int) token[i] & (1 << AT) - 1 : TOKEN_NOTHING;
        }

        /** Of the last token, if there are not so many. */
        int at(int i) {
            return (int) token[Math.max(0, Math.min(i, count - 1))] >> AT;
        }

        int value(int i) {
            return (int) (token[Math.max(0, Math.min(i, count - 1))] >> VALUE);
        }

        private static boolean isSign(int b) {
            return b > 32 && SIGNS.indexOf((char) b) >= 0;
        }

        private static boolean isDigit(int b) {
            return b >= '0' && b <= '9';
        }

        private static boolean isLetter(int b) {
            return (b >= 'a' && b <= 'z') || (b >= 'A' && b <= 'Z');
        }

        private static boolean isBehindName(int b) {
            return isLetter(b) || isDigit(b) || b == '_' || b == '\'';
        }
    }

    /** Cells of all texts: what is read, and what it is made into. Cell 0 is none. */
    private static final class Code {
        final int[] kind = new int[CELL_ROOM];
        final int[] at = new int[CELL_ROOM];
        final int[] a = new int[CELL_ROOM];
        final int[] b = new int[CELL_ROOM];
        final int[] c = new int[CELL_ROOM];
        final int[] d = new int[CELL_ROOM];
        final int[] next = new int[CELL_ROOM];
        int top = 1;
        boolean full;

        int cell(int newKind, int newAt, int newA, int newB) {
            if (top >= CELL_ROOM) {
                full = true;
                return 0;
            }
            int cell = top;
            top++;
            kind[cell] = newKind;
            at[cell] = newAt;
            a[cell] = newA;
            b[cell] = newB;
            c[cell] = 0;
            d[cell] = 0;
            next[cell] = 0;
            return cell;
        }

        int length(int first) {
            int count = 0;
            for (int cell = first; cell > 0 && count < CELL_ROOM; cell = next[cell]) {
                count++;
            }
            return count;
        }
    }

    /** Functions, types and constructors of all modules; maps tell which names they have now. */
    private static final class Tables {
        /** A signature has five bytes and more, a data nine, a Con two; and there are those of the prelude. */
        private static final int FUN_ROOM = TAPE_ROOM / 5 + 32;
        private static final int TYPE_ROOM = TAPE_ROOM / 9 + 16;
        private static final int CON_ROOM = TAPE_ROOM / 2 + 16;
        /** More names than the prelude has. */
        private static final int PRELUDE_ROOM = 128;
        // A map has two parts: no name is a function's and a constructor's, none a type's and an Op's.
        static final int FUN = 0;
        static final int CON = 0;
        static final int TYPE = NAME_ROOM;
        static final int FIX = NAME_ROOM;
        private static final int MAP_ROOM = 2 * NAME_ROOM;

        final int[] funSignature = new int[FUN_ROOM];
        final int[] funArrows = new int[FUN_ROOM];
        final int[] funTakes = new int[FUN_ROOM];
        final int[] funRule = new int[FUN_ROOM];
        final int[] funRules = new int[FUN_ROOM];
        final int[] funTree = new int[FUN_ROOM];
        final int[] funTreeEnd = new int[FUN_ROOM];
        final boolean[] funCovers = new boolean[FUN_ROOM];
        final boolean[] funSingle = new boolean[FUN_ROOM];
        final int[] typeTakes = new int[TYPE_ROOM];
        final int[] typeCell = new int[TYPE_ROOM];
        final int[] typeCons = new int[TYPE_ROOM];
        final int[] conName = new int[CON_ROOM];
        final int[] conType = new int[CON_ROOM];
        final int[] conTakes = new int[CON_ROOM];
        final int[] conCell = new int[CON_ROOM];
        /** How many there are: functions, types, constructors; then the same where the draft begins. */
        final int[] tops = new int[6];
        private final int[] prelude = new int[2 * PRELUDE_ROOM];
        int[] now = new int[MAP_ROOM];
        int[] draft = new int[MAP_ROOM];
        private int preludeFuns;
        private int first;
        private int last;
        boolean full;

        Tables() {
            addBuiltIn(NAME_UNIT, 0, 0, 0);
            addBuiltIn(NAME_PAIR, 2, 1, 2);
            addBuiltIn(NAME_TRIPLE, 3, 2, 3);
            addBuiltIn(NAME_NIL, 1, 3, 0);
            conName[CON_CONS] = NAME_COLON;
            conType[CON_CONS] = CODE_LIST;
            conTakes[CON_CONS] = 2;
            typeCons[3] = 2;
            tops[1] = 4;
            tops[2] = 5;
            prelude[PRELUDE_ROOM + NAME_INT] = CODE_INT;
            prelude[PRELUDE_ROOM + NAME_COLON] = fixity(5, TOKEN_INFIXR);
        }

        private void addBuiltIn(int name, int takes, int number, int parts) {
            typeTakes[number] = takes;
            typeCons[number] = 1;
            conName[number] = name;
            conType[number] = CODE_DATA + number;
            conTakes[number] = parts;
        }

        static int fixity(int strength, int side) {
            return 1 + strength * 16 + side;
        }

        void beginDraft() {
            Arrays.fill(draft, 0);
            System.arraycopy(prelude, 0, draft, 0, PRELUDE_ROOM);
            System.arraycopy(prelude, PRELUDE_ROOM, draft, NAME_ROOM, PRELUDE_ROOM);
            System.arraycopy(tops, 0, tops, 3, 3);
        }

        void dropDraft() {
            System.arraycopy(tops, 3, tops, 0, 3);
            full = false;
        }

        void takeDraft() {
            int[] old = now;
            now = draft;
            draft = old;
            first = tops[3];
            last = tops[0];
        }

        void keepPrelude() {
            System.arraycopy(now, 0, prelude, 0, PRELUDE_ROOM);
            System.arraycopy(now, NAME_ROOM, prelude, PRELUDE_ROOM, PRELUDE_ROOM);
            preludeFuns = tops[0];
            first = preludeFuns;
            last = preludeFuns;
        }

        int size() {
            return preludeFuns + last - first;
        }

        /** The number inside of the i-th function of the module, or NONE. */
        int function(int i) {
            if (i < 0 || i >= size()) {
                return NONE;
            }
            return i < preludeFuns ? i : first + i - preludeFuns;
        }

        int addFunction(int signature, int arrows) {
            if (tops[0] >= FUN_ROOM) {
                full = true;
                return 0;
            }
            int fun = tops[0];
            tops[0]++;
            funSignature[fun] = signature;
            funArrows[fun] = arrows;
            funTakes[fun] = Math.min(arrows, MOST_TAKEN);
            funRule[fun] = 0;
            funRules[fun] = 0;
            funTree[fun] = 0;
            funTreeEnd[fun] = 0;
            funCovers[fun] = false;
            funSingle[fun] = fun != FUN_LABEL;
            return fun;
        }

        int addType(int takes, int cell) {
            if (tops[1] >= TYPE_ROOM) {
                full = true;
                return 0;
            }
            int type = tops[1];
            tops[1]++;
            typeTakes[type] = takes;
            typeCell[type] = cell;
            typeCons[type] = 0;
            return type;
        }

        int addCon(int name, int type, int takes, int cell) {
            if (full || tops[2] >= CON_ROOM) {
                full = true;
                return 0;
            }
            int con = tops[2];
            tops[2]++;
            conName[con] = name;
            conType[con] = CODE_DATA + type;
            conTakes[con] = takes;
            conCell[con] = cell;
            typeCons[type]++;
            return con;
        }

        /** How many types stand behind a type of this code. */
        int codeTakes(int typeCode) {
            if (typeCode == CODE_FUN) {
                return 2;
            }
            return typeCode >= CODE_DATA ? typeTakes[typeCode - CODE_DATA] : 0;
        }
    }

    /**
     * Reads tokens into cells. A method is called where what it reads has to stand, and leaves at the
     * first token with which the text can't go on. Recursion goes as deep as things are OPEN.
     */
    private static final class Parser {
        private final Lexer lexer;
        private final Code code;
        private int pos;
        private int open;
        private boolean halfRow;
        /** Of the type that was read last: those outside of its brackets. */
        private int arrows;
        int begin;
        int query;
        int bad;

        Parser(Lexer lexer, Code code) {
            this.lexer = lexer;
            this.code = code;
        }

        private void start() {
            pos = 0;
            open = 0;
            halfRow = false;
            begin = code.top;
            query = 0;
            bad = NONE;
        }

        private int look(int ahead) {
            return lexer.kind(pos + ahead);
        }

        private int place() {
            return lexer.at(pos);
        }

        private int value() {
            return lexer.value(pos);
        }

        private void fail() {
            bad = lexer.at(pos);
            throw new IllegalStateException();
        }

        private void take(int kind) {
            if (look(0) != kind) {
                fail();
            }
            pos++;
        }

        private void takeOpen() {
            if (open >= MOST_OPEN) {
                fail();
            }
            open++;
            pos++;
        }

        private void takeClose(int kind) {
            if (look(0) != kind) {
                fail();
            }
            open--;
            pos++;
        }

        /** The first cell of the module's declarations. */
        int readModule() {
            start();
            int first = 0;
            int last = 0;
            for (int i = 0; i < lexer.count && lexer.count > 1 && pos < lexer.count; i++) {
                int decl = 0;
                int kind = look(0);
                int behind = look(1);
                if (kind == TOKEN_DATA) {
                    decl = data();
                } else if (kind == TOKEN_INFIX || kind == TOKEN_INFIXL || kind == TOKEN_INFIXR) {
                    decl = infix();
                } else if ((kind == TOKEN_NAME && behind == TOKEN_TYPED)
                        || (kind == TOKEN_ROUND && behind == TOKEN_OPERATOR)) {
                    decl = signature();
                } else {
                    decl = rule(kind != TOKEN_NAME || behind == TOKEN_OPERATOR || behind == TOKEN_QUOTE
                            || behind == TOKEN_AS);
                }
                take(TOKEN_END);
                if (last == 0) {
                    first = decl;
                } else {
                    code.next[last] = decl;
                }
                last = decl;
            }
            return first;
        }

        void readQuery() {
            start();
            int first = place();
            int expr = expr(false);
            int block = 0;
            if (look(0) == TOKEN_WHERE) {
                pos++;
                block = block();
            }
            int tokens = pos;
            take(TOKEN_END);
            if (pos < lexer.count) {
                fail();
            }
            query = code.cell(RHS_PLAIN, first, expr, block);
            code.c[query] = tokens;
        }

        private int data() {
            take(TOKEN_DATA);
            int data = code.cell(DECL_DATA, place(), value(), 0);
            take(TOKEN_BIG);
            int last = 0;
            for (int i = 0; i < lexer.count && look(0) == TOKEN_NAME; i++) {
                int param = code.cell(DECL_PARAM, place(), value(), 0);
                if (last == 0) {
                    code.b[data] = param;
                } else {
                    code.next[last] = param;
                }
                last = param;
                pos++;
            }
            take(TOKEN_EQUALS);
            last = con();
            code.c[data] = last;
            for (int i = 0; i < lexer.count && look(0) == TOKEN_BAR; i++) {
                pos++;
                int con = con();
                code.next[last] = con;
                last = con;
            }
            return data;
        }

        private int con() {
            int from = pos;
            int con = code.cell(DECL_CON, place(), value(), 0);
            take(TOKEN_BIG);
            int last = 0;
            for (int i = 0; i < lexer.count && beginsType(); i++) {
                int type = atomicType();
                if (last == 0) {
                    code.b[con] = type;
                } else {
                    code.next[last] = type;
                }
                last = type;
            }
            code.c[con] = last;
            code.d[con] = pos - from;
            return con;
        }

        private int infix() {
            int infix = code.cell(DECL_INFIX, place(), 0, 0);
            code.c[infix] = look(0);
            pos++;
            if (look(0) != TOKEN_INT || value() > 9) {
                fail();
            }
            code.a[infix] = value();
            int last = 0;
            for (int i = 0; i < lexer.count && (i == 0 || look(0) == TOKEN_COMMA); i++) {
                pos++;
                int op = operator(DECL_OP);
                if (last == 0) {
                    code.b[infix] = op;
                } else {
                    code.next[last] = op;
                }
                last = op;
            }
            return infix;
        }

        private boolean beginsOperator() {
            int kind = look(0);
            return kind == TOKEN_OPERATOR || kind == TOKEN_COLON || kind == TOKEN_QUOTE;
        }

        /** An Op, as a cell of the kind told; one that is : is a constructor at once. */
        private int operator(int kind) {
            int at = place();
            if (look(0) == TOKEN_QUOTE) {
                pos++;
                int name = value();
                take(TOKEN_NAME);
                take(TOKEN_QUOTE);
                return code.cell(kind, at, name, 0);
            }
            boolean colon = look(0) == TOKEN_COLON;
            if (!colon && look(0) != TOKEN_OPERATOR) {
                fail();
            }
            int name = value();
            pos++;
            if (colon && kind == EXPR_NAME) {
                return code.cell(EXPR_CON, at, name, CON_CONS);
            }
            return code.cell(kind, at, name, 0);
        }

        private int signature() {
            boolean bracketed = look(0) == TOKEN_ROUND;
            if (bracketed) {
                pos++;
            }
            int signature = code.cell(DECL_SIGNATURE, place(), value(), 0);
            pos++;
            if (bracketed) {
                take(TOKEN_ROUND_END);
            }
            take(TOKEN_TYPED);
            int from = pos;
            code.b[signature] = type();
            code.c[signature] = arrows;
            code.d[signature] = pos - from;
            return signature;
        }

        private boolean beginsType() {
            int kind = look(0);
            return kind == TOKEN_BIG || kind == TOKEN_NAME || kind == TOKEN_ROUND || kind == TOKEN_SQUARE;
        }

        /** Cells of a type come behind those of its parts, so that it can be made from the first on. */
        private int type() {
            int last = partOfArrow();
            int before = 0;
            int count = 0;
            for (; count < lexer.count && look(0) == TOKEN_ARROW; count++) {
                pos++;
                code.next[last] = before;
                before = last;
                last = partOfArrow();
            }
            arrows = count;
            for (int i = 0; i < count && before != 0; i++) {
                int left = before;
                before = code.next[left];
                code.next[left] = last;
                last = code.cell(TYPE_DATA, code.at[left], CODE_FUN, left);
                code.c[last] = 2;
            }
            return last;
        }

        private int partOfArrow() {
            if (look(0) != TOKEN_BIG) {
                return atomicType();
            }
            int at = place();
            int name = value();
            pos++;
            int first = 0;
            int last = 0;
            int count = 0;
            for (; count < lexer.count && beginsType(); count++) {
                int part = atomicType();
                if (last == 0) {
                    first = part;
                } else {
                    code.next[last] = part;
                }
                last = part;
            }
            int type = code.cell(TYPE_BIG, at, name, first);
            code.c[type] = count;
            return type;
        }

        private int atomicType() {
            int at = place();
            int name = value();
            switch (look(0)) {
                case TOKEN_BIG:
                    pos++;
                    return code.cell(TYPE_BIG, at, name, 0);
                case TOKEN_NAME:
                    pos++;
                    return code.cell(TYPE_NAME, at, name, 0);
                case TOKEN_SQUARE:
                    takeOpen();
                    int part = type();
                    takeClose(TOKEN_SQUARE_END);
                    int list = code.cell(TYPE_DATA, at, CODE_LIST, part);
                    code.c[list] = 1;
                    return list;
                case TOKEN_ROUND:
                    return roundType(at);
                default:
                    fail();
                    return 0;
            }
        }

        private int roundType(int at) {
            takeOpen();
            int first = 0;
            int last = 0;
            int count = 0;
            if (look(0) != TOKEN_ROUND_END) {
                first = type();
                last = first;
                count = 1;
                for (; count < 3 && look(0) == TOKEN_COMMA; count++) {
                    pos++;
                    int part = type();
                    code.next[last] = part;
                    last = part;
                }
            }
            takeClose(TOKEN_ROUND_END);
            if (count == 1) {
                return first;
            }
            int typeCode = count == 0 ? CODE_UNIT : count == 2 ? CODE_PAIR : CODE_TRIPLE;
            int type = code.cell(TYPE_DATA, at, typeCode, first);
            code.c[type] = count;
            return type;
        }

        private int rule(boolean infix) {
            int from = pos;
            int rule = code.cell(DECL_RULE, place(), value(), 0);
            if (infix) {
                int left = atomicPattern();
                if (look(0) == TOKEN_COLON) {
                    fail();
                }
                int op = operator(DECL_OP);
                code.at[rule] = code.at[op];
                code.a[rule] = code.a[op];
                code.b[rule] = left;
                code.next[left] = atomicPattern();
            } else {
                pos++;
                int last = 0;
                for (int i = 0; i < lexer.count && beginsPattern(); i++) {
                    int pattern = atomicPattern();
                    if (last == 0) {
                        code.b[rule] = pattern;
                    } else {
                        code.next[last] = pattern;
                    }
                    last = pattern;
                }
            }
            code.d[rule] = code.top;
            code.c[rule] = rightSide(from);
            return rule;
        }

        private int rightSide(int from) {
            int mark = pos;
            int kind = look(0) == TOKEN_BAR ? RHS_GUARDED : RHS_PLAIN;
            int first = 0;
            int last = 0;
            if (kind == RHS_PLAIN) {
                take(TOKEN_EQUALS);
                first = expr(false);
            }
            for (int i = 0; i < lexer.count && kind == RHS_GUARDED && look(0) == TOKEN_BAR; i++) {
                int guard = code.cell(RHS_GUARD, place(), 0, 0);
                pos++;
                code.a[guard] = expr(false);
                take(TOKEN_EQUALS);
                code.b[guard] = expr(false);
                if (last == 0) {
                    first = guard;
                } else {
                    code.next[last] = guard;
                }
                last = guard;
            }
            int block = 0;
            if (look(0) == TOKEN_WHERE) {
                pos++;
                block = block();
            }
            int side = code.cell(kind, lexer.at(from), first, block);
            code.c[side] = pos - from;
            code.d[side] = pos - mark;
            return side;
        }

        private int block() {
            if (look(0) != TOKEN_CURLY) {
                fail();
            }
            takeOpen();
            int first = blockDeclaration();
            int last = first;
            for (int i = 0; i < lexer.count && look(0) == TOKEN_SEMICOLON; i++) {
                pos++;
                int decl = blockDeclaration();
                code.next[last] = decl;
                last = decl;
            }
            takeClose(TOKEN_CURLY_END);
            return first;
        }

        private int blockDeclaration() {
            int at = place();
            int name = boundName();
            if (look(0) == TOKEN_EQUALS) {
                pos++;
                int decl = code.cell(BLOCK_IS, at, name, 0);
                code.b[decl] = expr(false);
                return decl;
            }
            int last = name;
            for (int i = 0; i < lexer.count && look(0) == TOKEN_COMMA; i++) {
                pos++;
                int other = boundName();
                code.next[last] = other;
                last = other;
            }
            take(TOKEN_FREE);
            return code.cell(BLOCK_FREE, at, name, 0);
        }

        private int boundName() {
            int name = code.cell(PAT_NAME, place(), value(), 0);
            take(TOKEN_NAME);
            return name;
        }

        private boolean beginsPattern() {
            int kind = look(0);
            return kind == TOKEN_NAME || kind == TOKEN_WILD || kind == TOKEN_BIG || kind == TOKEN_INT
                    || kind == TOKEN_ROUND || kind == TOKEN_SQUARE;
        }

        private int atomicPattern() {
            int first = 0;
            int last = 0;
            for (int i = 0; i < lexer.count && look(0) == TOKEN_NAME && look(1) == TOKEN_AS; i++) {
                int as = code.cell(PAT_AS, place(), 0, 0);
                code.a[as] = code.cell(PAT_NAME, place(), value(), 0);
                pos += 2;
                if (last == 0) {
                    first = as;
                } else {
                    code.b[last] = as;
                }
                last = as;
            }
            int pattern = plainPattern();
            if (last == 0) {
                return pattern;
            }
            code.b[last] = pattern;
            return first;
        }

        private int plainPattern() {
            int at = place();
            int name = value();
            switch (look(0)) {
                case TOKEN_NAME:
                    pos++;
                    return code.cell(PAT_NAME, at, name, 0);
                case TOKEN_WILD:
                    pos++;
                    return code.cell(PAT_WILD, at, 0, 0);
                case TOKEN_BIG:
                    pos++;
                    return code.cell(PAT_BIG, at, name, 0);
                case TOKEN_INT:
                    pos++;
                    return code.cell(PAT_INT, at, name, 0);
                case TOKEN_ROUND:
                    return roundPattern(at);
                case TOKEN_SQUARE:
                    return listPattern(at);
                default:
                    fail();
                    return 0;
            }
        }

        private int roundPattern(int at) {
            takeOpen();
            int first = 0;
            int last = 0;
            int count = 0;
            if (look(0) != TOKEN_ROUND_END) {
                first = pattern();
                last = first;
                count = 1;
                for (; count < 3 && look(0) == TOKEN_COMMA; count++) {
                    pos++;
                    int part = pattern();
                    code.next[last] = part;
                    last = part;
                }
            }
            takeClose(TOKEN_ROUND_END);
            if (count == 1) {
                return first;
            }
            return conPattern(at, count == 0 ? CON_UNIT : count == 2 ? CON_PAIR : CON_TRIPLE, first, count);
        }

        private int conPattern(int at, int con, int first, int count) {
            int pattern = code.cell(PAT_CON, at, con, first);
            code.c[pattern] = count;
            return pattern;
        }

        private int listPattern(int at) {
            takeOpen();
            int first = 0;
            int last = 0;
            boolean more = look(0) != TOKEN_SQUARE_END;
            for (int i = 0; i < lexer.count && more; i++) {
                int part = pattern();
                int cons = conPattern(at, CON_CONS, part, 2);
                if (last == 0) {
                    first = cons;
                } else {
                    code.next[last] = cons;
                }
                last = part;
                more = look(0) == TOKEN_COMMA;
                if (more) {
                    pos++;
                }
            }
            takeClose(TOKEN_SQUARE_END);
            int nil = conPattern(at, CON_NIL, 0, 0);
            if (last == 0) {
                return nil;
            }
            code.next[last] = nil;
            return first;
        }

        private int pattern() {
            int first = 0;
            int last = 0;
            for (int i = 0; i < lexer.count; i++) {
                int part = look(0) == TOKEN_BIG ? bigPattern() : atomicPattern();
                boolean more = look(0) == TOKEN_COLON;
                int whole = more ? conPattern(place(), CON_CONS, part, 2) : part;
                if (last == 0) {
                    first = whole;
                } else {
                    code.next[last] = whole;
                }
                last = part;
                if (!more) {
                    return first;
                }
                pos++;
            }
            return first;
        }

        private int bigPattern() {
            int pattern = code.cell(PAT_BIG, place(), value(), 0);
            pos++;
            int last = 0;
            int count = 0;
            for (; count < lexer.count && beginsPattern(); count++) {
                int part = atomicPattern();
                if (last == 0) {
                    code.b[pattern] = part;
                } else {
                    code.next[last] = part;
                }
                last = part;
            }
            code.c[pattern] = count;
            return pattern;
        }

        private boolean beginsTail() {
            int kind = look(0);
            return kind == TOKEN_BACKSLASH || kind == TOKEN_LET || kind == TOKEN_IF || kind == TOKEN_CASE
                    || kind == TOKEN_FCASE;
        }

        /** Directly behind a ( the Row may end with its first Op: halfRow tells so. */
        private int expr(boolean round) {
            switch (look(0)) {
                case TOKEN_BACKSLASH:
                    return lambda();
                case TOKEN_LET:
                    return let();
                case TOKEN_IF:
                    return condition();
                case TOKEN_CASE:
                    return cases(EXPR_CASE);
                case TOKEN_FCASE:
                    return cases(EXPR_FCASE);
                default:
                    return row(round);
            }
        }

        private int lambda() {
            int lambda = code.cell(EXPR_LAMBDA, place(), 0, 0);
            takeOpen();
            int last = 0;
            for (int i = 0; i < lexer.count && (i == 0 || look(0) != TOKEN_ARROW); i++) {
                int wild = place();
                int name = 0;
                if (look(0) == TOKEN_WILD) {
                    pos++;
                    name = code.cell(PAT_WILD, wild, 0, 0);
                } else {
                    name = boundName();
                }
                if (last == 0) {
                    code.a[lambda] = name;
                } else {
                    code.next[last] = name;
                }
                last = name;
            }
            pos++;
            int from = pos;
            code.b[lambda] = expr(false);
            code.d[lambda] = pos - from;
            open--;
            return lambda;
        }

        private int let() {
            int let = code.cell(EXPR_LET, place(), 0, 0);
            takeOpen();
            code.a[let] = block();
            take(TOKEN_IN);
            code.b[let] = expr(false);
            open--;
            return let;
        }

        private int condition() {
            int condition = code.cell(EXPR_IF, place(), 0, 0);
            takeOpen();
            code.a[condition] = expr(false);
            take(TOKEN_THEN);
            code.b[condition] = expr(false);
            take(TOKEN_ELSE);
            code.c[condition] = expr(false);
            open--;
            return condition;
        }

        private int cases(int kind) {
            int cases = code.cell(kind, place(), 0, 0);
            takeOpen();
            code.a[cases] = expr(false);
            take(TOKEN_OF);
            if (look(0) != TOKEN_CURLY) {
                fail();
            }
            takeOpen();
            int last = alternative();
            code.b[cases] = last;
            for (int i = 0; i < lexer.count && look(0) == TOKEN_SEMICOLON; i++) {
                pos++;
                int other = alternative();
                code.next[last] = other;
                last = other;
            }
            takeClose(TOKEN_CURLY_END);
            open--;
            return cases;
        }

        private int alternative() {
            int alt = code.cell(ALT, place(), 0, 0);
            code.a[alt] = pattern();
            code.c[alt] = code.top;
            take(TOKEN_ARROW);
            int from = pos;
            code.b[alt] = expr(false);
            code.d[alt] = pos - from;
            return alt;
        }

        private int row(boolean round) {
            int first = operand();
            int last = first;
            for (int count = 1; beginsOperator(); count++) {
                if (count > MOST_OPERATORS) {
                    fail();
                }
                int op = operator(EXPR_NAME);
                if (round && count == 1 && look(0) == TOKEN_ROUND_END) {
                    halfRow = true;
                    return application(op, first, 1);
                }
                boolean tail = beginsTail();
                int right = tail ? expr(false) : operand();
                code.next[last] = op;
                code.next[op] = right;
                last = right;
                if (tail) {
                    break;
                }
            }
            return first == last ? first : code.cell(EXPR_ROW, code.at[first], first, 0);
        }

        private int application(int head, int first, int count) {
            int whole = code.cell(EXPR_APPLY, code.at[head], head, first);
            code.c[whole] = count;
            return whole;
        }

        private boolean beginsAtom() {
            int kind = look(0);
            return kind == TOKEN_NAME || kind == TOKEN_BIG || kind == TOKEN_INT || kind == TOKEN_ROUND
                    || kind == TOKEN_SQUARE;
        }

        private int operand() {
            int set = 0;
            int head = 0;
            if (look(0) == TOKEN_SET) {
                set = code.cell(EXPR_SET, place(), 0, 0);
                pos++;
                head = code.cell(EXPR_NAME, place(), value(), 0);
                take(TOKEN_NAME);
            } else {
                head = atom();
            }
            int first = 0;
            int last = 0;
            int count = 0;
            for (; count < lexer.count && beginsAtom(); count++) {
                int atom = atom();
                if (last == 0) {
                    first = atom;
                } else {
                    code.next[last] = atom;
                }
                last = atom;
            }
            if (set != 0) {
                code.a[set] = head;
                code.b[set] = first;
                code.c[set] = count;
                return set;
            }
            return count == 0 ? head : application(head, first, count);
        }

        private int atom() {
            int at = place();
            int name = value();
            switch (look(0)) {
                case TOKEN_NAME:
                    pos++;
                    return code.cell(EXPR_NAME, at, name, 0);
                case TOKEN_BIG:
                    pos++;
                    return code.cell(EXPR_BIG, at, name, 0);
                case TOKEN_INT:
                    pos++;
                    return code.cell(EXPR_INT, at, name, 0);
                case TOKEN_ROUND:
                    takeOpen();
                    int inside = beginsOperator() ? section(at) : roundExpr(at);
                    takeClose(TOKEN_ROUND_END);
                    return inside;
                case TOKEN_SQUARE:
                    return list(at);
                default:
                    fail();
                    return 0;
            }
        }

        private int section(int at) {
            int op = operator(EXPR_NAME);
            if (look(0) == TOKEN_ROUND_END) {
                return op;
            }
            int right = operand();
            return code.cell(EXPR_SECTION, at, op, right);
        }

        private int roundExpr(int at) {
            if (look(0) == TOKEN_ROUND_END) {
                return code.cell(EXPR_CON, at, NAME_UNIT, CON_UNIT);
            }
            int first = expr(true);
            if (halfRow) {
                halfRow = false;
                return first;
            }
            int last = first;
            int count = 1;
            for (; count < 3 && look(0) == TOKEN_COMMA; count++) {
                pos++;
                int part = expr(false);
                code.next[last] = part;
                last = part;
            }
            if (count == 1) {
                return first;
            }
            int tuple = code.cell(EXPR_TUPLE, at, first, 0);
            code.c[tuple] = count;
            return tuple;
        }

        private int list(int at) {
            takeOpen();
            int first = 0;
            int last = 0;
            int count = 0;
            if (look(0) != TOKEN_SQUARE_END) {
                first = expr(false);
                last = first;
                count = 1;
                for (; count < lexer.count && look(0) == TOKEN_COMMA; count++) {
                    pos++;
                    int part = expr(false);
                    code.next[last] = part;
                    last = part;
                }
            }
            takeClose(TOKEN_SQUARE_END);
            if (count == 0) {
                return code.cell(EXPR_CON, at, NAME_NIL, CON_NIL);
            }
            int list = code.cell(EXPR_LIST, at, first, 0);
            code.c[list] = count;
            return list;
        }
    }

    /**
     * Judges NAMES, STRENGTHS and COUNTS, and keeps the least place of each kind of fault. Names get
     * what they stand for, Rows their shape, and names that are used a slot in their frame.
     */
    private static final class Checker {
        private static final int NO_PLACE = MOST_INT;
        /** Each NAME that is told has a byte behind it, at least. */
        private static final int ENV_ROOM = TOKEN_ROOM / 2 + 1;

        private final Code code;
        private final Tables tables;
        private int[] map;
        private int mapFrom;
        /** Behind 0: where in the rows below the innermost binding of a name is. */
        private final int[] local = new int[NAME_ROOM];
        private final int[] bound = new int[ENV_ROOM];
        private final int[] hidden = new int[ENV_ROOM];
        private int bounds;
        private int level;
        private final int[] frames = new int[MOST_OPEN + 2];
        private final int[] least = new int[KIND_TYPES];
        private final int[] operators = new int[MOST_OPERATORS + 1];
        private final int[] operands = new int[MOST_OPERATORS + 2];
        private int lastRuled;

        Checker(Code code, Tables tables) {
            this.code = code;
            this.tables = tables;
        }

        private void start(int[] newMap, int newFrom) {
            map = newMap;
            mapFrom = newFrom;
            bounds = 0;
            level = 0;
            frames[0] = 0;
            lastRuled = NONE;
            Arrays.fill(least, NO_PLACE);
        }

        private void found(int kind, int place) {
            least[kind] = Math.min(least[kind], place);
        }

        /** The kind of the fault, 0 without one. */
        int kind() {
            for (int kind = KIND_NAMES; kind <= KIND_COUNTS; kind++) {
                if (least[kind] != NO_PLACE) {
                    return kind;
                }
            }
            return 0;
        }

        int place() {
            int kind = kind();
            return kind == 0 ? NONE : least[kind];
        }

        void checkModule(int first) {
            start(tables.draft, tables.tops[3]);
            for (int decl = first; decl != 0; decl = code.next[decl]) {
                if (code.kind[decl] == DECL_DATA) {
                    declareData(decl);
                } else if (code.kind[decl] == DECL_SIGNATURE) {
                    declareFunction(decl);
                }
            }
            for (int decl = first; decl != 0; decl = code.next[decl]) {
                switch (code.kind[decl]) {
                    case DECL_DATA: checkData(decl); break;
                    case DECL_SIGNATURE: checkSignature(decl); break;
                    case DECL_INFIX: checkInfix(decl); break;
                    default: checkHead(decl); break;
                }
            }
            for (int decl = first; decl != 0; decl = code.next[decl]) {
                if (code.kind[decl] == DECL_RULE) {
                    checkRule(decl);
                }
            }
        }

        void checkQuery(int query) {
            start(tables.now, 0);
            if (code.c[query] > 2000) {
                found(KIND_COUNTS, code.at[query]);
            }
            checkBlock(code.b[query], true);
            checkExpr(code.a[query]);
            leave(0);
            code.c[query] = frames[0];
        }

        private void declareData(int decl) {
            int name = code.a[decl];
            int type = tables.addType(code.length(code.b[decl]), decl);
            if (map[Tables.TYPE + name] != 0) {
                found(KIND_NAMES, code.at[decl]);
            } else {
                map[Tables.TYPE + name] = CODE_DATA + type;
            }
            for (int con = code.c[decl]; con != 0; con = code.next[con]) {
                int conName = code.a[con];
                int number = tables.addCon(conName, type, code.length(code.b[con]), con);
                if (map[Tables.CON + conName] != 0) {
                    found(KIND_NAMES, code.at[con]);
                } else {
                    map[Tables.CON + conName] = number + 1;
                }
            }
        }

        private void declareFunction(int decl) {
            int name = code.a[decl];
            if (map[Tables.FUN + name] != 0) {
                found(KIND_NAMES, code.at[decl]);
                return;
            }
            map[Tables.FUN + name] = 1 + tables.addFunction(decl, code.c[decl]);
        }

        private void checkData(int decl) {
            int count = 0;
            for (int param = code.b[decl]; param != 0; param = code.next[param]) {
                enter(param, 0);
                count++;
            }
            if (count > 8) {
                found(KIND_COUNTS, code.at[decl]);
            }
            for (int con = code.c[decl]; con != 0; con = code.next[con]) {
                if (code.d[con] > 60 || code.length(code.b[con]) > MOST_TAKEN) {
                    found(KIND_COUNTS, code.at[con]);
                }
                checkTypes(con + 1, code.c[con], true);
            }
            leave(0);
        }

        private void checkSignature(int decl) {
            if (code.d[decl] > 60) {
                found(KIND_COUNTS, code.at[decl]);
            }
            checkTypes(decl + 1, code.b[decl], false);
        }

        private void checkTypes(int from, int to, boolean inData) {
            for (int type = from; type <= to; type++) {
                if (code.kind[type] == TYPE_BIG) {
                    int typeCode = map[Tables.TYPE + code.a[type]];
                    if (typeCode == 0) {
                        found(KIND_NAMES, code.at[type]);
                    } else {
                        if (tables.codeTakes(typeCode) != code.c[type]) {
                            found(KIND_COUNTS, code.at[type]);
                        }
                        code.kind[type] = TYPE_DATA;
                        code.a[type] = typeCode;
                    }
                } else if (inData && code.kind[type] == TYPE_NAME && local[code.a[type]] == 0) {
                    found(KIND_NAMES, code.at[type]);
                }
            }
        }

        private boolean isDeclaredHere(int name) {
            return map[Tables.FUN + name] > mapFrom;
        }

        private void checkInfix(int decl) {
            for (int op = code.b[decl]; op != 0; op = code.next[op]) {
                int name = code.a[op];
                if (map[Tables.FIX + name] != 0 || !isDeclaredHere(name)) {
                    found(KIND_NAMES, code.at[op]);
                }
                if (map[Tables.FIX + name] == 0) {
                    map[Tables.FIX + name] = Tables.fixity(code.a[decl], code.c[decl]);
                }
            }
        }

        /** A rule by its Lhs: whose it is, and how much it takes. */
        private void checkHead(int rule) {
            int name = code.a[rule];
            int side = code.c[rule];
            int takes = code.length(code.b[rule]);
            if (takes > MOST_TAKEN) {
                found(KIND_COUNTS, code.at[rule]);
            }
            if (code.c[side] > 2000) {
                found(KIND_COUNTS, code.at[side]);
            }
            boolean follows = lastRuled == name;
            lastRuled = name;
            if (!isDeclaredHere(name)) {
                found(KIND_NAMES, code.at[rule]);
                return;
            }
            int fun = map[Tables.FUN + name] - 1;
            if (tables.funRules[fun] == 0) {
                tables.funRule[fun] = rule;
                tables.funTakes[fun] = takes;
            } else if (!follows) {
                found(KIND_NAMES, code.at[rule]);
            }
            tables.funRules[fun]++;
            if (takes != tables.funTakes[fun] || takes > tables.funArrows[fun] || tables.funRules[fun] > 300) {
                found(KIND_COUNTS, code.at[rule]);
            }
            code.a[rule] = fun;
        }

        private void checkRule(int rule) {
            int side = code.c[rule];
            frames[0] = 0;
            checkPatterns(rule + 1, code.d[rule], code.at[side]);
            checkBlock(code.b[side], false);
            if (code.kind[side] == RHS_PLAIN) {
                checkExpr(code.a[side]);
            } else {
                for (int guard = code.a[side]; guard != 0; guard = code.next[guard]) {
                    checkExpr(code.a[guard]);
                    checkExpr(code.b[guard]);
                }
            }
            leave(0);
            code.c[side] = frames[0];
        }

        /** The cells of one Lhs or Pat, in the order in which they were read. */
        private void checkPatterns(int from, int to, int place) {
            int scope = bounds;
            int heads = 0;
            for (int cell = from; cell < to; cell++) {
                switch (code.kind[cell]) {
                    case PAT_NAME:
                        enter(cell, scope);
                        break;
                    case PAT_INT: case PAT_CON:
                        heads++;
                        break;
                    case PAT_BIG:
                        heads++;
                        checkConPattern(cell);
                        break;
                    default:
                        break;
                }
            }
            if (heads > 60) {
                found(KIND_COUNTS, place);
            }
        }

        private void checkConPattern(int cell) {
            int con = map[Tables.CON + code.a[cell]] - 1;
            if (con < 0) {
                found(KIND_NAMES, code.at[cell]);
                return;
            }
            if (tables.conTakes[con] != code.c[cell]) {
                found(KIND_COUNTS, code.at[cell]);
            }
            code.kind[cell] = PAT_CON;
            code.a[cell] = con;
        }

        private void enter(int cell, int scope) {
            int name = code.a[cell];
            if (local[name] > scope) {
                found(KIND_NAMES, code.at[cell]);
            }
            if (bounds < ENV_ROOM) {
                bound[bounds] = cell;
                hidden[bounds] = local[name];
                bounds++;
                local[name] = bounds;
            }
            code.c[cell] = 0;
            code.d[cell] = level;
        }

        private void leave(int scope) {
            while (bounds > scope) {
                bounds--;
                local[code.a[bound[bounds]]] = hidden[bounds];
            }
        }

        /** Free names of a Query always have a slot: their values are told. */
        private void checkBlock(int first, boolean told) {
            int scope = bounds;
            for (int decl = first; decl != 0; decl = code.next[decl]) {
                if (code.kind[decl] == BLOCK_IS) {
                    checkExpr(code.b[decl]);
                    enter(code.a[decl], scope);
                    continue;
                }
                for (int name = code.a[decl]; name != 0; name = code.next[name]) {
                    enter(name, scope);
                    if (told) {
                        slot(name);
                    }
                }
            }
        }

        private int slot(int name) {
            if (code.c[name] == 0) {
                int frame = code.d[name];
                frames[frame]++;
                code.c[name] = frames[frame];
            }
            return code.c[name];
        }

        private void checkExpr(int expr) {
            int scope = bounds;
            switch (code.kind[expr]) {
                case EXPR_NAME:
                    checkName(expr);
                    break;
                case EXPR_BIG:
                    checkCon(expr);
                    break;
                case EXPR_APPLY:
                    checkExpr(code.a[expr]);
                    checkExprs(code.b[expr]);
                    break;
                case EXPR_SET:
                    checkSet(expr);
                    checkExprs(code.b[expr]);
                    break;
                case EXPR_ROW:
                    checkExprs(code.a[expr]);
                    shapeRow(expr);
                    break;
                case EXPR_LAMBDA:
                    checkLambda(expr);
                    break;
                case EXPR_SECTION:
                    checkExpr(code.a[expr]);
                    checkExpr(code.b[expr]);
                    break;
                case EXPR_LET:
                    checkBlock(code.a[expr], false);
                    checkExpr(code.b[expr]);
                    leave(scope);
                    break;
                case EXPR_IF:
                    checkExpr(code.a[expr]);
                    checkExpr(code.b[expr]);
                    checkExpr(code.c[expr]);
                    break;
                case EXPR_CASE: case EXPR_FCASE:
                    checkCases(expr);
                    break;
                case EXPR_TUPLE: case EXPR_LIST:
                    checkExprs(code.a[expr]);
                    break;
                default:
                    break;
            }
        }

        private void checkExprs(int first) {
            for (int expr = first; expr != 0; expr = code.next[expr]) {
                checkExpr(expr);
            }
        }

        private void checkName(int expr) {
            int name = code.a[expr];
            if (local[name] > 0) {
                int cell = bound[local[name] - 1];
                code.kind[expr] = EXPR_LOCAL;
                code.b[expr] = cell;
                code.c[expr] = level - code.d[cell];
                code.d[expr] = slot(cell);
                return;
            }
            checkFunction(expr);
        }

        private void checkFunction(int expr) {
            int fun = map[Tables.FUN + code.a[expr]] - 1;
            if (fun < 0) {
                found(KIND_NAMES, code.at[expr]);
                return;
            }
            code.kind[expr] = EXPR_FUN;
            code.b[expr] = fun;
        }

        private void checkCon(int expr) {
            int con = map[Tables.CON + code.a[expr]] - 1;
            if (con < 0) {
                found(KIND_NAMES, code.at[expr]);
                return;
            }
            code.kind[expr] = EXPR_CON;
            code.b[expr] = con;
        }

        private void checkSet(int expr) {
            int head = code.a[expr];
            checkFunction(head);
            if (code.kind[head] == EXPR_FUN && tables.funTakes[code.b[head]] != code.c[expr]) {
                found(KIND_COUNTS, code.at[expr]);
            }
        }

        private void checkLambda(int lambda) {
            int scope = bounds;
            int count = 0;
            level = Math.min(level + 1, frames.length - 1);
            frames[level] = 0;
            for (int name = code.a[lambda]; name != 0; name = code.next[name]) {
                count++;
                if (code.kind[name] == PAT_NAME) {
                    enter(name, scope);
                }
            }
            if (count > MOST_TAKEN) {
                found(KIND_COUNTS, code.at[lambda]);
            }
            checkExpr(code.b[lambda]);
            leave(scope);
            code.c[lambda] = frames[level];
            level--;
        }

        private void checkCases(int expr) {
            int scope = bounds;
            checkExpr(code.a[expr]);
            for (int alt = code.b[expr]; alt != 0; alt = code.next[alt]) {
                checkPatterns(alt + 1, code.c[alt], code.at[alt]);
                checkExpr(code.b[alt]);
                leave(scope);
            }
        }

        private int strength(int op) {
            int fix = map[Tables.FIX + code.a[op]];
            return fix == 0 ? 9 : (fix - 1) / 16;
        }

        private int side(int op) {
            int fix = map[Tables.FIX + code.a[op]];
            return fix == 0 ? TOKEN_INFIXL : (fix - 1) % 16;
        }

        /** Makes a Row an application of its weakest operator, in place; then its operands likewise. */
        private void shapeRow(int row) {
            checkSides(row);
            int ops = 0;
            int parts = 1;
            operands[0] = code.a[row];
            int op = code.next[code.a[row]];
            while (op != 0 && parts <= MOST_OPERATORS) {
                int right = code.next[op];
                int following = code.next[right];
                while (ops > 0 && isHeldLeft(operators[ops - 1], op)) {
                    parts--;
                    ops--;
                    operands[parts - 1] = join(operators[ops], operands[parts - 1], operands[parts]);
                }
                operators[ops] = op;
                ops++;
                operands[parts] = right;
                parts++;
                op = following;
            }
            while (ops > 1) {
                parts--;
                ops--;
                operands[parts - 1] = join(operators[ops], operands[parts - 1], operands[parts]);
            }
            code.next[operands[0]] = operands[1];
            code.next[operands[1]] = 0;
            code.kind[row] = EXPR_APPLY;
            code.a[row] = operators[0];
            code.b[row] = operands[0];
            code.c[row] = 2;
        }

        private boolean isHeldLeft(int left, int right) {
            int difference = strength(left) - strength(right);
            return difference > 0 || (difference == 0 && side(left) == TOKEN_INFIXL);
        }

        private int join(int op, int left, int right) {
            int whole = code.cell(EXPR_APPLY, code.at[op], op, left);
            code.c[whole] = 2;
            code.next[left] = right;
            code.next[right] = 0;
            return whole;
        }

        private void checkSides(int row) {
            int count = 0;
            for (int op = code.next[code.a[row]]; op != 0 && count < MOST_OPERATORS; op = code.next[code.next[op]]) {
                operators[count] = op;
                for (int i = count - 1; i >= 0 && strength(operators[i]) >= strength(op); i--) {
                    if (strength(operators[i]) == strength(op)) {
                        if (side(operators[i]) != side(op) || side(op) == TOKEN_INFIX) {
                            found(KIND_STRENGTHS, code.at[op]);
                        }
                        break;
                    }
                }
                count++;
            }
        }
    }

    /**
     * Judges TYPES. A type is a place in a row, and what stands there is its code, a mark and its first
     * two parts; others come behind it. What was made one with another one has that in place of code and
     * mark, and its parts still. Types that are made one stay one, so that none is looked at twice. What
     * has no types behind it stands at the row's beginning, once for all who have it.
     *
     * At the row's end, from there towards the beginning, lies the stack of types that are under way.
     */
    private static final class Judge {
        /** For 2000 tokens, each with a type of 60 tokens, of which each is a type, and half of them deep. */
        private static final int TYPE_ROOM = 180000;
        /** More than what one cell can need. */
        private static final int SPARE = 4200;
        private static final int WORK_ROOM = 4096;
        private static final int VAR_ROOM = 64;
        /** Behind what is written where there is no room. */
        private static final int FIRST_CLOSED = 8;
        private static final int CLOSED_END = FIRST_CLOSED + CODE_DATA + Tables.TYPE_ROOM;
        // Bits of a type: two parts, its code, its mark, whether it is one with another one.
        private static final int PART = 18;
        private static final int PART_BITS = (1 << PART) - 1;
        private static final long PARTS_BITS = (1L << 2 * PART) - 1;
        private static final int CODE_AT = 2 * PART;
        private static final int MARK_AT = 48;
        private static final int CODE_BITS = (1 << (MARK_AT - CODE_AT)) - 1;
        private static final int MARK_BITS = (1 << 15) - 1;
        private static final long JOINED = 1L << 63;
        // Of what lies on the stack: the type, how many of its parts are done, whether it is in brackets.
        private static final int DONE_AT = 20;
        private static final long DONE = 1L << DONE_AT;
        private static final int DONE_BITS = 31;
        private static final int BRACKETS_AT = 30;

        private final Code code;
        private final Tables tables;
        private final long[] types = new long[TYPE_ROOM];
        private int top;
        private int depth;
        private int mark;
        /** Cells that are still to be looked at, each behind the type that is wanted of it. */
        private final long[] work = new long[WORK_ROOM];
        private int works;
        private final int[] varName = new int[VAR_ROOM];
        private final int[] varType = new int[VAR_ROOM];
        private int vars;
        private boolean grown;
        int asked;
        int fault;

        Judge(Code code, Tables tables) {
            this.code = code;
            this.tables = tables;
            for (int i = 0; i < CODE_DATA + Tables.TYPE_ROOM; i++) {
                types[FIRST_CLOSED + i] = (long) i << CODE_AT;
            }
        }

        void begin() {
            top = CLOSED_END;
            works = 0;
            mark = 0;
            fault = NONE;
        }

        /** The type of a code that has no types behind it. */
        private static int closed(int typeCode) {
            return FIRST_CLOSED + typeCode;
        }

        private int part(int type, int i) {
            return i < 2 ? (int) (types[type] >> PART * i) & PART_BITS
                    : (int) (types[type + (i + 1) / 3] >> PART * ((i - 2) % 3)) & PART_BITS;
        }

        /** For parts that are not set yet. */
        private void setPart(int type, int i, int part) {
            if (i < 2) {
                types[type] |= (long) part << PART * i;
            } else {
                types[type + (i + 1) / 3] |= (long) part << PART * ((i - 2) % 3);
            }
        }

        /** Keeps the place of the first fault in the order of judging. */
        void judgeModule(int first) {
            fault = NONE;
            for (int decl = first; decl != 0 && fault < 0; decl = code.next[decl]) {
                if (code.kind[decl] == DECL_RULE) {
                    begin();
                    wantRule(decl);
                    work();
                }
            }
        }

        void judgeQuery(int query) {
            begin();
            asked = unknown();
            want(code.a[query], asked);
            wantBlock(code.b[query]);
            work();
        }

        private void wantRule(int rule) {
            int side = code.c[rule];
            int result = signature(code.a[rule], true);
            int from = result;
            int count = code.length(code.b[rule]);
            for (int i = 0; i < count; i++) {
                result = part(result, 1);
            }
            if (code.kind[side] == RHS_PLAIN) {
                want(code.a[side], result);
            } else {
                wantGuards(code.a[side], result);
            }
            wantBlock(code.b[side]);
            wantArguments(code.b[rule], count, from);
        }

        private void wantGuards(int first, int result) {
            int count = code.length(first);
            works += 2 * count;
            int guard = first;
            for (int i = 1; i <= count && works <= WORK_ROOM; i++) {
                wantAt(2 * i - 1, code.a[guard], closed(CODE_BOOL));
                wantAt(2 * i, code.b[guard], result);
                guard = code.next[guard];
            }
        }

        private void want(int cell, int type) {
            works++;
            wantAt(1, cell, type);
        }

        /** So many places below the top. */
        private void wantAt(int below, int cell, int type) {
            if (works <= WORK_ROOM) {
                work[works - below] = (long) type << 32 | cell;
            }
        }

        /** What is put first here is looked at last. */
        private void wantBlock(int first) {
            int count = 0;
            for (int decl = first; decl != 0; decl = code.next[decl]) {
                if (code.kind[decl] == BLOCK_IS) {
                    count++;
                    code.b[code.a[decl]] = unknown();
                    continue;
                }
                for (int name = code.a[decl]; name != 0; name = code.next[name]) {
                    code.b[name] = unknown();
                }
            }
            works += count;
            int i = 0;
            for (int decl = first; decl != 0; decl = code.next[decl]) {
                if (code.kind[decl] == BLOCK_IS) {
                    i++;
                    wantAt(i, code.b[decl], code.b[code.a[decl]]);
                }
            }
        }

        /** Cells in their order, the first one with a part of a type, each other one so many parts further on. */
        private void wantAll(int first, int count, int type, int from, int step) {
            works += count;
            int cell = first;
            for (int i = 1; i <= count; i++) {
                wantAt(i, cell, part(type, from + (i - 1) * step));
                cell = code.next[cell];
            }
        }

        private void work() {
            for (int i = 0; i < TYPE_ROOM && works > 0 && fault < 0; i++) {
                if (works > WORK_ROOM || top > TYPE_ROOM - SPARE) {
                    fault = 0;
                    return;
                }
                works--;
                int cell = (int) work[works];
                int type = (int) (work[works] >> 32);
                if (code.kind[cell] < EXPR_NAME) {
                    judgePattern(cell, type);
                } else {
                    judgeExpr(cell, type);
                }
            }
        }

        private void judgePattern(int pattern, int wanted) {
            switch (code.kind[pattern]) {
                case PAT_NAME:
                    code.b[pattern] = wanted;
                    break;
                case PAT_INT:
                    unify(closed(CODE_INT), wanted, pattern);
                    break;
                case PAT_AS:
                    code.b[code.a[pattern]] = wanted;
                    want(code.b[pattern], wanted);
                    break;
                case PAT_CON:
                    int parts = conParts(code.a[pattern]);
                    unify(part(parts, 0), wanted, pattern);
                    wantAll(code.b[pattern], code.c[pattern], parts, 1, 1);
                    break;
                default:
                    break;
            }
        }

        private void judgeExpr(int expr, int wanted) {
            switch (code.kind[expr]) {
                case EXPR_LOCAL:
                    unify(code.b[code.b[expr]], wanted, expr);
                    break;
                case EXPR_FUN:
                    unify(signature(code.b[expr], false), wanted, expr);
                    break;
                case EXPR_CON:
                    unify(conType(conParts(code.b[expr]), code.b[expr]), wanted, expr);
                    break;
                case EXPR_INT:
                    unify(closed(CODE_INT), wanted, expr);
                    break;
                case EXPR_APPLY:
                    int arrow = arrows(code.c[expr], wanted);
                    wantArguments(code.b[expr], code.c[expr], arrow);
                    want(code.a[expr], arrow);
                    break;
                case EXPR_SET:
                    judgeSet(expr, wanted);
                    break;
                case EXPR_LAMBDA:
                    judgeLambda(expr, wanted);
                    break;
                case EXPR_SECTION:
                    judgeSection(expr, wanted);
                    break;
                case EXPR_LET:
                    want(code.b[expr], wanted);
                    wantBlock(code.a[expr]);
                    break;
                case EXPR_IF:
                    want(code.c[expr], wanted);
                    want(code.b[expr], wanted);
                    want(code.a[expr], closed(CODE_BOOL));
                    break;
                case EXPR_CASE: case EXPR_FCASE:
                    judgeCases(expr, wanted);
                    break;
                default:
                    judgeParts(expr, wanted);
                    break;
            }
        }

        private int arrows(int count, int result) {
            int type = result;
            for (int i = 0; i < count; i++) {
                type = arrow(unknown(), type);
            }
            return type;
        }

        private int arrow(int left, int right) {
            int type = make(CODE_FUN, 2);
            setPart(type, 0, left);
            setPart(type, 1, right);
            return type;
        }

        /** The atoms behind a head, by the arrows that were made for it. */
        private void wantArguments(int first, int count, int arrow) {
            works += count;
            int cell = first;
            int type = arrow;
            for (int i = 1; i <= count; i++) {
                wantAt(i, cell, part(type, 0));
                type = part(type, 1);
                cell = code.next[cell];
            }
        }

        private void judgeSet(int expr, int wanted) {
            int result = unknown();
            unify(listOf(result), wanted, expr);
            int arrow = arrows(code.c[expr], result);
            wantArguments(code.b[expr], code.c[expr], arrow);
            want(code.a[expr], arrow);
        }

        private void judgeLambda(int lambda, int wanted) {
            int result = unknown();
            int arrow = arrows(code.length(code.a[lambda]), result);
            int type = arrow;
            for (int name = code.a[lambda]; name != 0; name = code.next[name]) {
                code.b[name] = part(type, 0);
                type = part(type, 1);
            }
            unify(arrow, wanted, lambda);
            want(code.b[lambda], result);
        }

        private void judgeSection(int expr, int wanted) {
            int left = unknown();
            int right = unknown();
            int result = unknown();
            unify(arrow(left, result), wanted, expr);
            want(code.b[expr], right);
            want(code.a[expr], arrow(left, arrow(right, result)));
        }

        private void judgeCases(int expr, int wanted) {
            int type = unknown();
            int count = code.length(code.b[expr]);
            works += 2 * count;
            int alt = code.b[expr];
            for (int i = 1; i <= count; i++) {
                wantAt(2 * i - 1, code.a[alt], type);
                wantAt(2 * i, code.b[alt], wanted);
                alt = code.next[alt];
            }
            want(code.a[expr], type);
        }

        /** Tuples and lists. */
        private void judgeParts(int expr, int wanted) {
            int count = code.c[expr];
            if (code.kind[expr] == EXPR_LIST) {
                int list = listOf(unknown());
                unify(list, wanted, expr);
                wantAll(code.a[expr], count, list, 0, 0);
                return;
            }
            int tuple = make(count == 2 ? CODE_PAIR : CODE_TRIPLE, count);
            for (int i = 0; i < count; i++) {
                setPart(tuple, i, unknown());
            }
            unify(tuple, wanted, expr);
            wantAll(code.a[expr], count, tuple, 0, 1);
        }

        private int make(int typeCode, int parts) {
            int size = 1 + parts / 3;
            if (top + size > TYPE_ROOM) {
                return 0;
            }
            int type = top;
            top += size;
            Arrays.fill(types, type, top, 0);
            types[type] = (long) typeCode << CODE_AT;
            return type;
        }

        private int unknown() {
            return make(CODE_UNKNOWN, 0);
        }

        private int listOf(int part) {
            int list = make(CODE_LIST, 1);
            setPart(list, 0, part);
            return list;
        }

        /** A function's type; its NAMES are unknowns, or rigid: types of their own. */
        int signature(int fun, boolean rigid) {
            int cell = tables.funSignature[fun];
            vars = 0;
            copyTypes(cell + 1, code.b[cell], rigid);
            return code.d[code.b[cell]];
        }

        /** Parts come ahead of wholes; each cell keeps the type that was made for it. */
        private void copyTypes(int from, int to, boolean rigid) {
            for (int cell = from; cell <= to; cell++) {
                if (code.kind[cell] == TYPE_NAME) {
                    code.d[cell] = variable(code.a[cell], rigid);
                } else if (code.c[cell] == 0) {
                    code.d[cell] = closed(code.a[cell]);
                } else {
                    int count = code.c[cell];
                    int type = make(code.a[cell], count);
                    int part = code.b[cell];
                    for (int i = 0; i < count; i++) {
                        setPart(type, i, code.d[part]);
                        part = code.next[part];
                    }
                    code.d[cell] = type;
                }
            }
        }

        private int variable(int name, boolean rigid) {
            for (int i = 0; i < vars; i++) {
                if (varName[i] == name) {
                    return varType[i];
                }
            }
            int type = make(rigid ? CODE_RIGID : CODE_UNKNOWN, 0);
            if (vars < VAR_ROOM) {
                varName[vars] = name;
                varType[vars] = type;
                vars++;
            }
            return type;
        }

        /** A type whose parts are that of a constructor's data, and then those of its parts. */
        private int conParts(int con) {
            int count = tables.conTakes[con];
            int typeCode = tables.conType[con];
            int takes = tables.codeTakes(typeCode);
            int whole = takes == 0 ? closed(typeCode) : make(typeCode, takes);
            vars = 0;
            if (typeCode <= CODE_LIST) {
                for (int i = 0; i < takes; i++) {
                    setPart(whole, i, unknown());
                }
            } else {
                int param = code.b[tables.typeCell[typeCode - CODE_DATA]];
                for (int i = 0; i < takes; i++) {
                    setPart(whole, i, variable(code.a[param], false));
                    param = code.next[param];
                }
                int cell = tables.conCell[con];
                copyTypes(cell + 1, code.c[cell], false);
            }
            int parts = make(CODE_RIGID, count + 1);
            setPart(parts, 0, whole);
            int cell = typeCode <= CODE_LIST ? 0 : code.b[tables.conCell[con]];
            for (int i = 0; i < count; i++) {
                setPart(parts, i + 1, cell != 0 ? code.d[cell]
                        : con == CON_CONS && i == 1 ? whole : part(whole, i));
                cell = code.next[cell];
            }
            return parts;
        }

        private int conType(int parts, int con) {
            int type = part(parts, 0);
            for (int i = tables.conTakes[con]; i > 0; i--) {
                type = arrow(part(parts, i), type);
            }
            return type;
        }

        private int codeOf(int type) {
            return (int) (types[type] >> CODE_AT) & CODE_BITS;
        }

        private int find(int type) {
            int found = type;
            for (int i = 0; i < TYPE_ROOM && types[found] < 0; i++) {
                found = (int) (types[found] >> CODE_AT) & PART_BITS;
            }
            return found;
        }

        /** Makes two types one; if they can't be, the fault is at the cell. */
        private void unify(int first, int second, int cell) {
            grown = false;
            depth = 0;
            boolean good = join(find(first), find(second));
            for (int turn = 0; turn < MOST_TURNS && depth > 0 && good; turn++) {
                int type = (int) types[TYPE_ROOM - depth] & PART_BITS;
                int i = (int) (types[TYPE_ROOM - depth] >> DONE_AT);
                int other = find(type);
                if (i >= tables.codeTakes(codeOf(other))) {
                    depth--;
                } else {
                    types[TYPE_ROOM - depth] += DONE;
                    good = join(find(part(type, i)), find(part(other, i)));
                }
            }
            if (!good || (grown && isWithinItself(find(first)))) {
                fault = code.at[cell];
            }
        }

        /** Types that have parts are on the stack then, for these to be made one, too. */
        private boolean join(int left, int right) {
            if (left == right) {
                return true;
            }
            int leftCode = codeOf(left);
            int rightCode = codeOf(right);
            int from = left;
            int to = right;
            if (leftCode == CODE_UNKNOWN || rightCode == CODE_UNKNOWN) {
                from = leftCode == CODE_UNKNOWN ? left : right;
                to = leftCode == CODE_UNKNOWN ? right : left;
                grown = grown || tables.codeTakes(leftCode) > 0 || tables.codeTakes(rightCode) > 0;
            } else if (leftCode != rightCode || leftCode == CODE_RIGID || TYPE_ROOM - depth <= top + 1) {
                return false;
            } else {
                depth++;
                types[TYPE_ROOM - depth] = left;
            }
            types[from] = JOINED | (long) to << CODE_AT | types[from] & PARTS_BITS;
            return true;
        }

        /** Types on the way down are marked with mark, those that are done with mark + 1. */
        private boolean isWithinItself(int first) {
            mark += 2;
            depth = 0;
            int next = first;
            for (int turn = 0; turn < MOST_TURNS && (next > 0 || depth > 0); turn++) {
                if (next > 0) {
                    int marked = (int) (types[next] >> MARK_AT) & MARK_BITS;
                    if (marked == mark || TYPE_ROOM - depth <= top + 1) {
                        return true;
                    }
                    if (marked != mark + 1 && tables.codeTakes(codeOf(next)) > 0) {
                        types[next] += (long) (mark - marked) << MARK_AT;
                        depth++;
                        types[TYPE_ROOM - depth] = next;
                    }
                    next = 0;
                    continue;
                }
                int type = (int) types[TYPE_ROOM - depth] & PART_BITS;
                int i = (int) (types[TYPE_ROOM - depth] >> DONE_AT);
                if (i >= tables.codeTakes(codeOf(type))) {
                    types[type] += 1L << MARK_AT;
                    depth--;
                } else {
                    types[TYPE_ROOM - depth] += DONE;
                    next = find(part(type, i));
                }
            }
            return false;
        }

        /** Prints a type. Those that are begun lie on the stack, each with how many of its parts are printed. */
        void print(int first, Out out) {
            vars = 0;
            depth = 0;
            open(find(first), 0, out);
            for (int turn = 0; turn < MOST_TURNS && depth > 0 && !out.isFull(); turn++) {
                long level = types[TYPE_ROOM - depth];
                int type = (int) level & PART_BITS;
                int i = (int) (level >> DONE_AT) & DONE_BITS;
                int typeCode = codeOf(type);
                if (i == tables.codeTakes(typeCode)) {
                    depth--;
                    close(typeCode, level >> BRACKETS_AT != 0, out);
                } else {
                    types[TYPE_ROOM - depth] += DONE;
                    printJoint(typeCode, i, out);
                    int around = typeCode > CODE_LIST ? 2 : typeCode == CODE_FUN && i == 0 ? 1 : 0;
                    open(find(part(type, i)), around, out);
                }
            }
        }

        /** What stands around a type: 0 nothing, 1 it is the left side of an arrow, 2 a BIG is ahead. */
        private void open(int type, int around, Out out) {
            int typeCode = codeOf(type);
            if (typeCode == CODE_UNKNOWN || typeCode == CODE_RIGID) {
                printVariable(type, out);
                return;
            }
            boolean applied = typeCode > CODE_LIST && tables.codeTakes(typeCode) > 0;
            boolean bracketed = typeCode == CODE_FUN ? around > 0 : applied && around == 2;
            if (bracketed) {
                out.put('(');
            }
            if (typeCode == CODE_INT) {
                out.name(NAME_INT);
            } else if (typeCode > CODE_LIST) {
                out.name(code.a[tables.typeCell[typeCode - CODE_DATA]]);
            } else if (typeCode != CODE_FUN) {
                out.put(typeCode == CODE_LIST ? '[' : '(');
            }
            if (TYPE_ROOM - depth > top + 1) {
                depth++;
                types[TYPE_ROOM - depth] = (bracketed ? 1L << BRACKETS_AT : 0) | type;
            }
        }

        private void close(int typeCode, boolean bracketed, Out out) {
            if (typeCode == CODE_LIST) {
                out.put(']');
            } else if (bracketed || typeCode == CODE_UNIT || typeCode == CODE_PAIR || typeCode == CODE_TRIPLE) {
                out.put(')');
            }
        }

        /** What stands ahead of the i-th part. */
        private void printJoint(int typeCode, int i, Out out) {
            if (typeCode > CODE_LIST) {
                out.put(' ');
            } else if (typeCode == CODE_FUN && i == 1) {
                out.put(' ');
                out.put('-');
                out.put('>');
                out.put(' ');
            } else if (i > 0) {
                out.put(',');
                out.put(' ');
            }
        }

        /** A variable that has come has its number where others have a part. */
        private void printVariable(int type, Out out) {
            if (part(type, 0) == 0) {
                vars++;
                setPart(type, 0, vars);
            }
            int number = part(type, 0) - 1;
            out.put('a' + number % 26);
            if (number >= 26) {
                out.number(number / 26);
            }
        }
    }

    /** Makes rules into TREES, and patterns into rows of checks and of names with their positions. */
    private static final class Trees {
        /** A case of 2000 tokens has less than 500 Alts. */
        private static final int RULE_ROOM = 512;
        /** All positions that are OPEN in TREES still to be made have tokens of their own. */
        private static final int OPEN_ROOM = TOKEN_ROOM + 2000;
        private static final int TASK = 5;
        private static final int WALK_ROOM = 2500;
        private static final int DEPTH_ROOM = 128;

        private final Code code;
        private final Tables tables;
        private final int[] rules = new int[RULE_ROOM];
        /** Numbers of rules, from 1 on; each TREE that is under way has a part of this row. */
        private final int[] order = new int[RULE_ROOM];
        private final int[] keys = new int[RULE_ROOM];
        private final int[] ranks = new int[RULE_ROOM];
        private final int[] sorted = new int[RULE_ROOM];
        private final int[] open = new int[OPEN_ROOM];
        /** TREES still to be made: the cell, from and to of order, from and to of open. */
        private final int[] tasks = new int[RULE_ROOM * TASK];
        private int taskCount;
        private final int[] walkCell = new int[WALK_ROOM];
        private final int[] walkPosition = new int[WALK_ROOM];
        private final int[] path = new int[DEPTH_ROOM];
        /** The first position of the rules that are looked at. */
        private int arguments;
        private int firstCheck;
        private int lastCheck;
        private int firstBind;
        private int lastBind;
        boolean full;

        Trees(Code code, Tables tables) {
            this.code = code;
            this.tables = tables;
        }

        void makeModule(int begin) {
            makeCases(begin, code.top);
            for (int fun = tables.tops[3]; fun < tables.tops[0]; fun++) {
                if (tables.funRules[fun] > 0) {
                    makeFunction(fun);
                }
            }
            findSingle();
        }

        /** All case and fcase in the cells of a text. */
        void makeCases(int begin, int end) {
            full = false;
            for (int cell = begin; cell < end; cell++) {
                if (code.kind[cell] != EXPR_CASE && code.kind[cell] != EXPR_FCASE) {
                    continue;
                }
                boolean rigid = code.kind[cell] == EXPR_CASE;
                arguments = 0;
                int count = 0;
                for (int alt = code.b[cell]; alt != 0 && count < RULE_ROOM; alt = code.next[alt]) {
                    code.c[alt] = makeRow(code.a[alt], rigid);
                    rules[count] = alt;
                    count++;
                }
                if (!rigid) {
                    code.c[cell] = makeTree(count, 1);
                }
            }
        }

        private void makeFunction(int fun) {
            arguments = 0;
            int count = 0;
            for (int rule = tables.funRule[fun]; rule != 0 && count < tables.funRules[fun]; rule = code.next[rule]) {
                if (code.kind[rule] == DECL_RULE && count < RULE_ROOM) {
                    code.next[code.c[rule]] = makeRow(code.b[rule], false);
                    rules[count] = rule;
                    count++;
                }
            }
            tables.funTree[fun] = makeTree(count, tables.funTakes[fun]);
            tables.funTreeEnd[fun] = code.top;
            tables.funCovers[fun] = covers(tables.funTree[fun], code.top);
        }

        /** What patterns check (if that is wanted), and behind that the names they bind. */
        private int makeRow(int first, boolean checks) {
            firstCheck = 0;
            lastCheck = 0;
            firstBind = 0;
            lastBind = 0;
            int number = 0;
            for (int pattern = first; pattern != 0; pattern = code.next[pattern]) {
                number++;
                walk(pattern, position(0, number), checks);
            }
            if (firstCheck == 0) {
                return firstBind;
            }
            code.next[lastCheck] = firstBind;
            return firstCheck;
        }

        /** The position of a part: each is made once for all rules. */
        private int position(int around, int i) {
            int last = 0;
            for (int place = around == 0 ? arguments : code.c[around]; place != 0; place = code.next[place]) {
                if (code.b[place] == i) {
                    return place;
                }
                last = place;
            }
            int made = code.cell(POSITION, 0, around, i);
            if (last != 0) {
                code.next[last] = made;
            } else if (around != 0) {
                code.c[around] = made;
            } else {
                arguments = made;
            }
            return made;
        }

        private void walk(int first, int position, boolean checks) {
            int depth = 1;
            walkCell[0] = first;
            walkPosition[0] = position;
            for (int turn = 0; turn < CELL_ROOM && depth > 0; turn++) {
                depth--;
                int cell = walkCell[depth];
                int place = walkPosition[depth];
                int kind = code.kind[cell];
                if (kind == PAT_NAME) {
                    bind(cell, place);
                } else if (kind == PAT_AS) {
                    bind(code.a[cell], place);
                    walkCell[depth] = code.b[cell];
                    depth++;
                } else if (kind == PAT_INT || kind == PAT_CON) {
                    if (checks) {
                        check(kind == PAT_INT ? CHECK_INT : CHECK_CON, code.a[cell], place);
                    }
                    depth = walkParts(cell, place, depth);
                }
            }
        }

        private int walkParts(int cell, int place, int depth) {
            int count = code.kind[cell] == PAT_CON ? code.c[cell] : 0;
            if (depth + count > WALK_ROOM) {
                full = true;
                return depth;
            }
            int part = code.b[cell];
            for (int i = 1; i <= count; i++) {
                walkCell[depth + count - i] = part;
                walkPosition[depth + count - i] = position(place, i);
                part = code.next[part];
            }
            return depth + count;
        }

        private void bind(int name, int place) {
            if (code.c[name] == 0) {
                return;
            }
            int cell = code.cell(BIND, 0, code.c[name], place);
            if (lastBind == 0) {
                firstBind = cell;
            } else {
                code.next[lastBind] = cell;
            }
            lastBind = cell;
        }

        private void check(int kind, int key, int place) {
            int cell = code.cell(kind, 0, key, place);
            if (lastCheck == 0) {
                firstCheck = cell;
            } else {
                code.next[lastCheck] = cell;
            }
            lastCheck = cell;
        }

        /** The TREE of the first so many of the rules. */
        private int makeTree(int count, int takes) {
            for (int i = 0; i < count; i++) {
                order[i] = i + 1;
            }
            for (int i = 0; i < takes; i++) {
                open[i] = position(0, i + 1);
            }
            int root = code.cell(TREE_LEAF, 0, 0, 0);
            taskCount = 0;
            addTask(root, 0, count, 0, takes);
            for (int i = 0; i < CELL_ROOM && taskCount > 0 && !full; i++) {
                taskCount--;
                makeOne(taskCount * TASK);
            }
            return root;
        }

        private void addTask(int tree, int from, int to, int openFrom, int openTo) {
            if (taskCount >= RULE_ROOM) {
                full = true;
                return;
            }
            int task = taskCount * TASK;
            tasks[task] = tree;
            tasks[task + 1] = from;
            tasks[task + 2] = to;
            tasks[task + 3] = openFrom;
            tasks[task + 4] = openTo;
            taskCount++;
        }

        private void makeOne(int task) {
            int from = tasks[task + 1];
            int to = tasks[task + 2];
            int some = NONE;
            for (int i = tasks[task + 3]; i < tasks[task + 4]; i++) {
                int needing = 0;
                for (int j = from; j < to; j++) {
                    needing += needs(order[j], open[i]) ? 1 : 0;
                }
                if (needing > 0 && needing == to - from) {
                    makeBranch(task, open[i]);
                    return;
                }
                if (needing > 0 && some < 0) {
                    some = open[i];
                }
            }
            makeOr(task, some);
        }

        private boolean needs(int number, int position) {
            int kind = code.kind[patternAt(number, position)];
            return kind == PAT_INT || kind == PAT_CON;
        }

        private int patternAt(int number, int position) {
            int depth = 0;
            for (int p = position; p != 0 && depth < DEPTH_ROOM; p = code.a[p]) {
                path[depth] = code.b[p];
                depth++;
            }
            int rule = rules[number - 1];
            int pattern = code.kind[rule] == ALT ? code.a[rule] : code.b[rule];
            while (depth > 0) {
                depth--;
                for (int i = 1; i < path[depth]; i++) {
                    pattern = code.next[pattern];
                }
                while (code.kind[pattern] == PAT_AS) {
                    pattern = code.b[pattern];
                }
                if (depth > 0) {
                    pattern = code.b[pattern];
                }
            }
            return pattern;
        }

        /** A LEAF, an OR of LEAVES, or, if some need a position, an OR of RUNS. */
        private void makeOr(int task, int position) {
            int tree = tasks[task];
            int from = tasks[task + 1];
            int to = tasks[task + 2];
            int openFrom = tasks[task + 3];
            int openTo = tasks[task + 4];
            if (to - from == 1) {
                makeLeaf(tree, order[from]);
                return;
            }
            code.kind[tree] = TREE_OR;
            int length = openTo - openFrom;
            int last = 0;
            int place = openFrom;
            for (int start = from; start < to; ) {
                int stop = start + 1;
                while (position > 0 && stop < to && needs(order[stop], position) == needs(order[start], position)) {
                    stop++;
                }
                last = addChild(tree, last, 0);
                if (place + length > OPEN_ROOM) {
                    full = true;
                    return;
                }
                System.arraycopy(open, openFrom, open, place, length);
                addTask(last, start, stop, place, place + length);
                place += length;
                start = stop;
            }
        }

        private void makeLeaf(int tree, int number) {
            code.kind[tree] = TREE_LEAF;
            code.a[tree] = rules[number - 1];
            code.d[tree] = number;
        }

        private int addChild(int tree, int last, int key) {
            int child = code.cell(TREE_LEAF, 0, 0, 0);
            code.c[child] = key;
            if (last == 0) {
                code.b[tree] = child;
            } else {
                code.next[last] = child;
            }
            code.d[tree]++;
            return child;
        }

        /** All the rules need the position: they are sorted by what they have there. */
        private void makeBranch(int task, int position) {
            int tree = tasks[task];
            int from = tasks[task + 1];
            int to = tasks[task + 2];
            int openFrom = tasks[task + 3];
            int openTo = tasks[task + 4];
            boolean ints = rank(from, to, position);
            code.kind[tree] = ints ? TREE_INT : TREE_CON;
            code.a[tree] = position;
            int tasksBefore = taskCount;
            int place = openTo;
            int rank = NONE;
            int last = 0;
            for (int filled = from; filled < to && !full; ) {
                int start = filled;
                rank = rankBehind(from, to, rank);
                for (int i = from; i < to; i++) {
                    if (ranks[i] == rank) {
                        sorted[filled] = order[i];
                        filled++;
                    }
                }
                last = addChild(tree, last, ints ? keys[rank] : rank);
                int opened = openBelow(position, ints ? 0 : tables.conTakes[rank], openFrom, openTo, place);
                addTask(last, start, filled, place, opened);
                place = opened;
            }
            System.arraycopy(sorted, from, order, from, to - from);
            System.arraycopy(open, openTo, open, openFrom, place - openTo);
            for (int i = tasksBefore; i < taskCount; i++) {
                tasks[i * TASK + 3] -= openTo - openFrom;
                tasks[i * TASK + 4] -= openTo - openFrom;
            }
        }

        /** Ranks tell the order of the children: constructors by their number, INTS by the first rule. */
        private boolean rank(int from, int to, int position) {
            boolean ints = false;
            for (int i = from; i < to; i++) {
                int pattern = patternAt(order[i], position);
                ints = code.kind[pattern] == PAT_INT;
                keys[i] = code.a[pattern];
                ranks[i] = keys[i];
                for (int j = from; ints && j <= i; j++) {
                    if (keys[j] == keys[i]) {
                        ranks[i] = j;
                        break;
                    }
                }
            }
            return ints;
        }

        private int rankBehind(int from, int to, int rank) {
            int least = MOST_INT;
            for (int i = from; i < to; i++) {
                if (ranks[i] > rank) {
                    least = Math.min(least, ranks[i]);
                }
            }
            return least;
        }

        /**
         * Copies what is OPEN, with what is below the position instead of it; answers where that ends.
         * Patterns have made what is below it already, in order.
         */
        private int openBelow(int position, int takes, int openFrom, int openTo, int place) {
            int to = place;
            if (place + openTo - openFrom + takes > OPEN_ROOM) {
                full = true;
                return place;
            }
            for (int i = openFrom; i < openTo; i++) {
                if (open[i] != position) {
                    open[to] = open[i];
                    to++;
                    continue;
                }
                int part = code.c[position];
                for (int count = 0; count < takes && part != 0; count++) {
                    open[to] = part;
                    to++;
                    part = code.next[part];
                }
            }
            return to;
        }

        /** Children lie behind their TREE, so that they are judged ahead of it from the end on. */
        private boolean covers(int root, int end) {
            for (int tree = end - 1; tree >= root; tree--) {
                boolean all = true;
                boolean any = false;
                for (int child = isInner(tree) ? code.b[tree] : 0; child != 0; child = code.next[child]) {
                    all = all && code.at[child] == 1;
                    any = any || code.at[child] == 1;
                }
                boolean good = false;
                switch (code.kind[tree]) {
                    case TREE_LEAF:
                        good = code.kind[code.c[code.a[tree]]] == RHS_PLAIN;
                        break;
                    case TREE_CON:
                        int type = tables.conType[code.c[code.b[tree]]] - CODE_DATA;
                        good = all && code.d[tree] == tables.typeCons[type];
                        break;
                    case TREE_OR:
                        good = any;
                        break;
                    default:
                        break;
                }
                code.at[tree] = good ? 1 : 0;
            }
            return code.at[root] == 1;
        }

        private boolean isInner(int tree) {
            return code.kind[tree] == TREE_CON || code.kind[tree] == TREE_OR;
        }

        int countBranches(int fun) {
            int count = 0;
            for (int cell = tables.funTree[fun]; cell < tables.funTreeEnd[fun]; cell++) {
                count += code.kind[cell] == TREE_CON || code.kind[cell] == TREE_INT ? 1 : 0;
            }
            return count;
        }

        int countOrs(int fun) {
            int count = 0;
            for (int cell = tables.funTree[fun]; cell < tables.funTreeEnd[fun]; cell++) {
                count += code.kind[cell] == TREE_OR ? 1 : 0;
            }
            return count;
        }

        /** All are SINGLE until something speaks against it; what is found so may speak against others. */
        private void findSingle() {
            boolean changed = true;
            for (int turn = tables.tops[3]; turn <= tables.tops[0] && changed; turn++) {
                changed = false;
                for (int fun = tables.tops[3]; fun < tables.tops[0]; fun++) {
                    if (tables.funSingle[fun] && tables.funRules[fun] > 0 && isSeveral(fun)) {
                        tables.funSingle[fun] = false;
                        changed = true;
                    }
                }
            }
        }

        private boolean isSeveral(int fun) {
            if (countOrs(fun) > 0) {
                return true;
            }
            int count = 0;
            for (int rule = tables.funRule[fun]; rule != 0 && count < tables.funRules[fun]; rule = code.next[rule]) {
                if (code.kind[rule] != DECL_RULE) {
                    continue;
                }
                count++;
                for (int cell = rule; cell < code.c[rule]; cell++) {
                    int kind = code.kind[cell];
                    if (kind == BLOCK_FREE || kind == EXPR_FCASE
                            || (kind == EXPR_FUN && !tables.funSingle[code.b[cell]])) {
                        return true;
                    }
                }
            }
            return false;
        }

        /**
         * Prints a TREE. What is still to be printed lies on a stack: signs below 0, and cells, four
         * times, with what is ahead of them: 0 nothing, 1 a constructor, 2 an INT.
         */
        void print(int fun, Out out) {
            int depth = 0;
            if (tables.funRules[fun] > 0) {
                walkCell[0] = 4 * tables.funTree[fun];
                depth = 1;
            }
            for (int turn = 0; turn < MOST_TURNS && depth > 0 && !out.isFull(); turn++) {
                depth--;
                int item = walkCell[depth];
                if (item < 0) {
                    out.put(-item);
                    continue;
                }
                int tree = item / 4;
                if (item % 4 == 1) {
                    out.name(tables.conName[code.c[tree]]);
                    out.put(':');
                } else if (item % 4 == 2) {
                    out.number(code.c[tree]);
                    out.put(':');
                }
                if (code.kind[tree] == TREE_LEAF) {
                    out.put('#');
                    out.number(code.d[tree]);
                } else {
                    depth = printInner(tree, depth, out);
                }
            }
        }

        private int printInner(int tree, int depth, Out out) {
            int count = code.d[tree];
            boolean or = code.kind[tree] == TREE_OR;
            if (depth + 2 * count > WALK_ROOM) {
                return depth;
            }
            if (!or) {
                printPosition(code.a[tree], out);
            }
            out.put(or ? '[' : '{');
            int top = depth + 2 * count;
            walkCell[depth] = or ? -']' : -'}';
            int around = or ? 0 : code.kind[tree] == TREE_CON ? 1 : 2;
            int place = top - 1;
            for (int child = code.b[tree]; child != 0 && place > depth; child = code.next[child]) {
                walkCell[place] = 4 * child + around;
                walkCell[place - 1] = place - 1 == depth ? walkCell[depth] : -',';
                place -= 2;
            }
            return top;
        }

        private void printPosition(int position, Out out) {
            int depth = 0;
            for (int p = position; p != 0 && depth < DEPTH_ROOM; p = code.a[p]) {
                path[depth] = code.b[p];
                depth++;
            }
            for (int i = depth - 1; i >= 0; i--) {
                out.number(path[i]);
                if (i > 0) {
                    out.put('.');
                }
            }
        }
    }

    /**
     * What is done on one PATH: NODES, the memory behind them, and a trail by which all can be undone
     * that NODES older than the latest DECISION have become.
     *
     * Memory holds blocks (how many NODES, then these), frames (the frame around, then the NODES that
     * names stand for) and cells of NODES that wait for their NORMAL FORM.
     *
     * A DECISION does not keep the stack: each NODE of it needs the same one as it did then, so that
     * going back is to go on from NODE to NODE again. Two sorts of NODES do not tell which one they need:
     * & has sides, and a CAPSULE was given up for something. What these need when there is a DECISION
     * stands in their r; it is written there only for a DECISION, so that only those that need another
     * one than at the DECISION ahead are saved.
     */
    private static final class Path {
        private static final int MEMORY_ROOM = 96000;
        /** Room for one block or frame, whatever its length, when there is none left. */
        private static final int MEMORY_SPARE = 2100;
        private static final int TRAIL_ROOM = 64000;
        private static final int SAVED = 2;
        // What is saved of a NODE, behind its number: its tag and r; p and q lie ahead of that.
        private static final int TAG_AT = 16;
        private static final int R_AT = 24;
        private static final int TAG_BITS = (1 << (R_AT - TAG_AT)) - 1;
        // Of a stamp: a TREE, which is a cell, whether the NODE was saved, the era.
        private static final int ERA_AT = 16;
        private static final int SAVED_BIT = 1 << (ERA_AT - 1);
        private static final int TREE_BITS = SAVED_BIT - 1;
        // With no tag: up to three & whose sides were turned, the second and third from here on.
        private static final int TURNED_AT = 24;
        private static final int NEXT_TURNED_AT = 40;
        private static final int STACK_ROOM = NODE_ROOM + 1;
        // A level of the stack: its NODE, from STATE_AT on its state.
        static final int STATE_AT = 16;
        private static final int NODE_BITS = (1 << STATE_AT) - 1;
        // In r of a CAPSULE: what it LABOURED when it was given up, behind the NODE for which it was.
        private static final int COST_AT = 16;
        private static final int COST_BITS = (1 << 14) - 1;

        final int[] tag = new int[NODE_ROOM];
        final int[] p = new int[NODE_ROOM];
        final int[] q = new int[NODE_ROOM];
        final int[] r = new int[NODE_ROOM];
        /**
         * By NODE: an era, and what holds in it alone: how far its CALL has come along its TREE, and, as SAVED_BIT,
         * that it was saved.
         */
        private final long[] stamp = new long[NODE_ROOM];
        int nodes;
        final int[] memory = new int[MEMORY_ROOM + MEMORY_SPARE];
        int used;
        private final long[] trail = new long[TRAIL_ROOM];
        int trailed;
        /** NODES that are being EVALUATED, each for the one below it. Above the top there are states alone. */
        final long[] stack = new long[STACK_ROOM];
        int top;
        /** Levels up to this one lie as the latest DECISION has seen them. */
        int seen;
        /** Levels up to this one have the states that the latest DECISION, or one ahead of it, has written down. */
        int known;
        /** Goes up whenever something is done for which a NODE that WAITS may not WAIT any more. */
        private long version;
        /** By NODE: the version in which it was known to WAIT, and what LABOUR it costs to find that again. */
        private final long[] waits = new long[NODE_ROOM];
        /** Goes up whenever it is gone back to a DECISION. */
        private long era;
        /** NODES below this are older than the latest DECISION. */
        int guard;
        /** NODES below this are OUTSIDE of the innermost CAPSULE. */
        int inside;
        int labour;
        int steps;
        int binds;
        /** The FREE VAR for which is WAITED, 0 without one. */
        int cause;
        int choices;
        boolean full;

        void reset() {
            nodes = 1;
            used = 1;
            trailed = 0;
            cutStack(0);
            seen = 0;
            known = 0;
            version = 1;
            guard = 0;
            inside = 0;
            labour = 0;
            steps = 0;
            binds = 0;
            full = false;
            tag[0] = 0;
            newEra();
        }

        void newEra() {
            era++;
        }

        void newVersion() {
            version++;
        }

        /** Keeps what it costs to find again that a NODE WAITS; below 0 that is not known. */
        void keepWait(int n, int cost) {
            waits[n] = cost < 0 ? 0 : version << 14 | Math.min(cost, COST_BITS);
        }

        /** What it would cost to find again that a NODE WAITS; NONE if it may go on. */
        int waitCost(int n) {
            return waits[n] >>> 14 == version ? (int) (waits[n] & COST_BITS) : NONE;
        }

        /** A NODE of a VALUE does not WAIT: until the next VALUE it may have a number instead. */
        void note(int n, int value, int number) {
            waits[n] = -((long) value << 32 | number);
        }

        /** The number that a NODE has in a VALUE; NONE without one. */
        int noted(int n, int value) {
            return waits[n] < 0 && -waits[n] >> 32 == value ? (int) -waits[n] : NONE;
        }

        int node(int newTag, int newP, int newQ, int newR) {
            if (nodes >= NODE_ROOM) {
                full = true;
                return 0;
            }
            int n = nodes;
            nodes++;
            tag[n] = newTag;
            p[n] = newP;
            q[n] = newQ;
            r[n] = newR;
            stamp[n] = 0;
            waits[n] = 0;
            return n;
        }

        int freeVar() {
            return node(NODE_VAR, 0, 0, 0);
        }

        int number(long value) {
            return node(NODE_INT, (int) (value >> 32), (int) value, 0);
        }

        long valueOf(int n) {
            return ((long) p[n] << 32) | (q[n] & 0xffffffffL);
        }

        /** So many places of memory; without room the PATH will be GIVEN UP. */
        int reserve(int length) {
            if (length < 0 || length > MEMORY_SPARE || used + length > MEMORY_ROOM) {
                full = true;
                return MEMORY_ROOM;
            }
            int place = used;
            used += length;
            return place;
        }

        int block(int count) {
            if (count == 0) {
                return 0;
            }
            int block = reserve(count + 1);
            memory[block] = count;
            return block;
        }

        int pair(int first, int second) {
            int block = reserve(3);
            memory[block] = 2;
            memory[block + 1] = first;
            memory[block + 2] = second;
            return block;
        }

        /** What a NODE becomes; what it was is saved once for each DECISION. */
        void set(int n, int newTag, int newP, int newQ, int newR) {
            long stamped = stampOf(n) & ~TREE_BITS;
            if (n < guard && (stamped & SAVED_BIT) == 0) {
                if (trailed + SAVED > TRAIL_ROOM) {
                    full = true;
                    return;
                }
                trail[trailed] = (long) p[n] << 32 | q[n] & 0xffffffffL;
                trail[trailed + 1] = (long) r[n] << R_AT | tag[n] << TAG_AT | n;
                trailed += SAVED;
                stamped |= SAVED_BIT;
            }
            stamp[n] = stamped;
            tag[n] = newTag;
            p[n] = newP;
            q[n] = newQ;
            r[n] = newR;
        }

        private long stampOf(int n) {
            return stamp[n] >>> ERA_AT == era ? stamp[n] : era << ERA_AT;
        }

        /** How far the CALL of a NODE has come along its TREE since it was gone back to a DECISION, at least. */
        int reached(int n) {
            int tree = (int) stampOf(n) & TREE_BITS;
            return tree == 0 ? r[n] : tree;
        }

        void keepReached(int n, int tree) {
            stamp[n] = stampOf(n) & ~TREE_BITS | tree;
        }

        void undo(int to) {
            while (trailed > to) {
                trailed--;
                long saved = trail[trailed];
                int n = (int) saved & NODE_BITS;
                int savedTag = (int) (saved >> TAG_AT) & TAG_BITS;
                if (savedTag == 0) {
                    turn(n);
                    turn((int) (saved >> TURNED_AT) & NODE_BITS);
                    turn((int) (saved >> NEXT_TURNED_AT) & NODE_BITS);
                } else if (trailed > 0) {
                    trailed--;
                    tag[n] = savedTag;
                    p[n] = (int) (trail[trailed] >> 32);
                    q[n] = (int) trail[trailed];
                    r[n] = (int) (saved >> R_AT);
                }
            }
        }

        /** The other side of an & . */
        private void turn(int both) {
            r[both] ^= 1;
        }

        /**
         * For a DECISION: an & has another side than at the one ahead. So many were turned directly ahead of it;
         * answers how many are now.
         */
        int turnFor(int both, int turned) {
            turn(both);
            if (both >= guard) {
                return turned;
            }
            int place = turned % 3;
            if (place > 0) {
                trail[trailed - 1] |= (long) both << (place == 1 ? TURNED_AT : NEXT_TURNED_AT);
            } else if (trailed < TRAIL_ROOM) {
                trail[trailed] = both;
                trailed++;
            } else {
                full = true;
                return turned;
            }
            return turned + 1;
        }

        /** What a NODE has become: behind all NODES that it is the same as. */
        int last(int n) {
            int found = n;
            for (int i = 0; i < NODE_ROOM; i++) {
                if (tag[found] != NODE_SAME && (tag[found] != NODE_VAR || p[found] == 0)) {
                    return found;
                }
                found = p[found];
            }
            return found;
        }

        boolean isHead(int n) {
            return tag[n] >= NODE_INT;
        }

        boolean isPart(int n) {
            return tag[n] >= NODE_PART_FUN;
        }

        boolean isCon(int n, int con) {
            return tag[n] == NODE_DATA && p[n] == con;
        }

        void push(int n) {
            if (top + 1 >= STACK_ROOM) {
                full = true;
                return;
            }
            top++;
            stack[top] |= n;
        }

        void pop() {
            stack[top] = 0;
            top--;
            seen = Math.min(seen, top);
            known = Math.min(known, top);
        }

        void cutStack(int newTop) {
            if (top > newTop) {
                Arrays.fill(stack, newTop + 1, top + 1, 0);
            }
            top = newTop;
        }

        /** The NODE on top of the stack, as what it has become. */
        int topNode() {
            return last((int) stack[top] & NODE_BITS);
        }

        /** The NODE on a level of the stack, likewise. */
        int nodeAt(int i) {
            return last((int) stack[i] & NODE_BITS);
        }

        /** What an & or a CAPSULE on top needs to know besides, as long as it is being EVALUATED: 0 at first. */
        int topState() {
            return (int) (stack[top] >> STATE_AT);
        }

        int stateAt(int i) {
            return (int) (stack[i] >> STATE_AT);
        }

        void setTopState(int state) {
            stack[top] = (long) state << STATE_AT | topNode();
            seen = Math.min(seen, top - 1);
            known = Math.min(known, top - 1);
        }

        /** As it was at a DECISION, to which it was gone back. */
        void tellTopState(int state) {
            stack[top] = (long) state << STATE_AT | stack[top] & NODE_BITS;
        }

        /** The HEAD of a NODE; 0 if it is EVALUATED first. */
        int need(int n) {
            int head = last(n);
            if (isHead(head)) {
                return head;
            }
            push(head);
            return 0;
        }

        int part(int n, int i) {
            return memory[q[n] + i];
        }

        /** For a DECISION: for what a CAPSULE was given up the last time, and what it LABOURED then. */
        void keepGivenUp(int capsule, int outside, int cost) {
            int why = cost << COST_AT | outside;
            if (r[capsule] != why) {
                set(capsule, NODE_CAPSULE, p[capsule], q[capsule], why);
            }
        }

        int givenUpFor(int capsule) {
            return r[capsule] & NODE_BITS;
        }

        int givenUpCost(int capsule) {
            return r[capsule] >> COST_AT;
        }

        int waitFor(int variable) {
            cause = variable;
            return WAITS;
        }

        boolean isOutside(int n) {
            return n < inside;
        }

        boolean pay(int cost) {
            if (cost > MOST_LABOUR - labour) {
                return false;
            }
            labour += cost;
            return true;
        }

        boolean step(int weight) {
            if (!pay(1 + weight)) {
                return false;
            }
            steps++;
            return true;
        }

    }

    /** What NODES do that are no calls of PRIMITIVES. */
    private static final class Steps {
        private static final int DEPTH_ROOM = 128;

        private final Code code;
        private final Tables tables;
        private final Path path;
        private final Primitives primitives;
        private final int[] way = new int[DEPTH_ROOM];
        /** Positions have the turn in which it was noted what NODES stand behind them, and where these are. */
        private int turn;

        Steps(Code code, Tables tables, Path path, Primitives primitives) {
            this.code = code;
            this.tables = tables;
            this.path = path;
            this.primitives = primitives;
        }

        /** One thing more on a NODE that is no HEAD. */
        int step(int n) {
            switch (path.tag[n]) {
                case NODE_EXPR:
                    return expr(n, path.p[n], path.q[n]);
                case NODE_CALL:
                    return tables.funRules[path.p[n]] == 0 ? FAILS : descend(n);
                case NODE_FCASE:
                    return descend(n);
                case NODE_CASE:
                    return tryAlternatives(n);
                case NODE_IF:
                    return condition(n);
                case NODE_GUARD:
                    return guard(n);
                case NODE_APPLY:
                    return apply(n);
                case NODE_CAPSULE:
                    return BEGINS;
                default:
                    return FAILS;
            }
        }

        /** The NODE of an Expr: a NAME that is known has one already. */
        private int nodeOf(int expr, int frame) {
            if (code.kind[expr] == EXPR_LOCAL) {
                return local(expr, frame);
            }
            return path.node(NODE_EXPR, expr, frame, 0);
        }

        private int local(int expr, int frame) {
            int place = frame;
            for (int i = code.c[expr]; i > 0; i--) {
                place = path.memory[place];
            }
            return path.memory[place + code.d[expr]];
        }

        private int frame(int around, int size) {
            int frame = path.reserve(size + 1);
            path.memory[frame] = around;
            for (int i = 1; i <= size; i++) {
                path.memory[frame + i] = 0;
            }
            return frame;
        }

        private int nodesOf(int first, int count, int frame) {
            int block = path.block(count);
            int expr = first;
            for (int i = 1; i <= count; i++) {
                path.memory[block + i] = nodeOf(expr, frame);
                expr = code.next[expr];
            }
            return block;
        }

        private int expr(int n, int expr, int frame) {
            switch (code.kind[expr]) {
                case EXPR_LOCAL:
                    path.set(n, NODE_SAME, local(expr, frame), 0, 0);
                    return GO;
                case EXPR_INT:
                    path.set(n, NODE_INT, 0, code.a[expr], 0);
                    return GO;
                case EXPR_FUN: case EXPR_CON:
                    return applyHead(n, expr, frame, 0);
                case EXPR_APPLY:
                    return applyHead(n, code.a[expr], frame, nodesOf(code.b[expr], code.c[expr], frame));
                case EXPR_SET:
                    int nodes = nodesOf(code.b[expr], code.c[expr], frame);
                    path.set(n, NODE_CAPSULE, code.b[code.a[expr]], nodes, 0);
                    return GO;
                case EXPR_LAMBDA:
                    path.set(n, NODE_PART_LAMBDA, expr, 0, frame);
                    return GO;
                case EXPR_SECTION:
                    int right = path.block(1);
                    path.memory[right + 1] = nodeOf(code.b[expr], frame);
                    path.set(n, NODE_PART_SECTION, expr, right, frame);
                    return GO;
                case EXPR_LET:
                    declare(code.a[expr], frame);
                    path.set(n, NODE_EXPR, code.b[expr], frame, 0);
                    return GO;
                case EXPR_IF:
                    path.set(n, NODE_IF, expr, frame, nodeOf(code.a[expr], frame));
                    return GO;
                case EXPR_CASE: case EXPR_FCASE:
                    return beginCases(n, expr, frame);
                case EXPR_TUPLE:
                    int parts = nodesOf(code.a[expr], code.c[expr], frame);
                    path.set(n, NODE_DATA, code.c[expr] == 2 ? CON_PAIR : CON_TRIPLE, parts, 0);
                    return GO;
                default:
                    return list(n, expr, frame);
            }
        }

        /** All cells of a list are made at once. */
        private int list(int n, int expr, int frame) {
            int cell = n;
            for (int part = code.a[expr]; part != 0; part = code.next[part]) {
                int rest = path.node(NODE_DATA, CON_NIL, 0, 0);
                path.set(cell, NODE_DATA, CON_CONS, path.pair(nodeOf(part, frame), rest), 0);
                cell = rest;
            }
            return GO;
        }

        /** NODES and VARS for the names of a Block that are used. */
        void declare(int first, int frame) {
            for (int decl = first; decl != 0; decl = code.next[decl]) {
                if (code.kind[decl] == BLOCK_IS) {
                    int slot = code.c[code.a[decl]];
                    if (slot > 0) {
                        path.memory[frame + slot] = nodeOf(code.b[decl], frame);
                    }
                    continue;
                }
                for (int name = code.a[decl]; name != 0; name = code.next[name]) {
                    if (code.c[name] > 0) {
                        path.memory[frame + code.c[name]] = path.freeVar();
                    }
                }
            }
        }

        /** Begins a Query: its frame, in which all of its free names have a NODE. */
        int beginQuery(int query) {
            int frame = frame(0, code.c[query]);
            declare(code.b[query], frame);
            return frame;
        }

        int queryNode(int query, int frame) {
            return nodeOf(code.a[query], frame);
        }

        private int applyHead(int n, int head, int frame, int block) {
            if (code.kind[head] == EXPR_FUN) {
                return applyFunction(n, code.b[head], block);
            }
            if (code.kind[head] == EXPR_CON) {
                return applyCon(n, code.b[head], block);
            }
            path.set(n, NODE_APPLY, nodeOf(head, frame), block, 0);
            return GO;
        }

        private int applyFunction(int n, int fun, int block) {
            int count = path.memory[block];
            int takes = tables.funTakes[fun];
            if (count < takes) {
                path.set(n, NODE_PART_FUN, fun, block, 0);
            } else if (count == takes) {
                path.set(n, NODE_CALL, fun, block, tables.funTree[fun]);
            } else {
                int call = path.node(NODE_CALL, fun, blockOf(block, 0, takes), tables.funTree[fun]);
                path.set(n, NODE_APPLY, call, block, takes);
            }
            return GO;
        }

        private int applyCon(int n, int con, int block) {
            boolean enough = path.memory[block] == tables.conTakes[con];
            path.set(n, enough ? NODE_DATA : NODE_PART_CON, con, block, 0);
            return GO;
        }

        /** So many NODES of a block, behind the first ones told, as a block of its own. */
        private int blockOf(int block, int behind, int count) {
            if (count == 0) {
                return 0;
            }
            int copy = path.reserve(count + 1);
            path.memory[copy] = count;
            System.arraycopy(path.memory, block + behind + 1, path.memory, copy + 1, count);
            return copy;
        }

        /** The first NODES of its block, as many as its r tells, have been taken already. */
        private int apply(int n) {
            int part = path.need(path.p[n]);
            if (part == 0) {
                return GO;
            }
            if (path.tag[part] == NODE_VAR) {
                return path.waitFor(part);
            }
            if (!path.isPart(part)) {
                return FAILS;
            }
            int block = path.q[n];
            int taken = path.r[n];
            int held = path.memory[path.q[part]];
            int lacks = lacks(part) - held;
            int count = path.memory[block] - taken;
            if (count > lacks) {
                int call = path.node(NODE_APPLY, part, blockOf(block, taken, lacks), 0);
                path.set(n, NODE_APPLY, call, block, taken + lacks);
                return GO;
            }
            int all = path.block(held + count);
            System.arraycopy(path.memory, path.q[part] + 1, path.memory, all + 1, held);
            System.arraycopy(path.memory, block + taken + 1, path.memory, all + 1 + held, count);
            int what = path.p[part];
            if (count < lacks) {
                path.set(n, path.tag[part], what, all, path.r[part]);
                return GO;
            }
            switch (path.tag[part]) {
                case NODE_PART_FUN:
                    return applyFunction(n, what, all);
                case NODE_PART_CON:
                    return applyCon(n, what, all);
                case NODE_PART_LAMBDA:
                    return callLambda(n, what, path.r[part], all);
                default:
                    if (!path.step(1)) {
                        return GIVEN_UP;
                    }
                    int operands = path.pair(path.memory[all + 2], path.memory[all + 1]);
                    return applyHead(n, code.a[what], path.r[part], operands);
            }
        }

        /** How much a PART takes in all. */
        private int lacks(int part) {
            switch (path.tag[part]) {
                case NODE_PART_FUN:
                    return tables.funTakes[path.p[part]];
                case NODE_PART_CON:
                    return tables.conTakes[path.p[part]];
                case NODE_PART_LAMBDA:
                    return code.length(code.a[path.p[part]]);
                default:
                    return 2;
            }
        }

        private int callLambda(int n, int lambda, int around, int block) {
            if (!path.step(code.d[lambda])) {
                return GIVEN_UP;
            }
            int frame = frame(around, code.c[lambda]);
            int i = 1;
            for (int name = code.a[lambda]; name != 0; name = code.next[name]) {
                if (code.kind[name] == PAT_NAME && code.c[name] > 0) {
                    path.memory[frame + code.c[name]] = path.memory[block + i];
                }
                i++;
            }
            path.set(n, NODE_EXPR, code.b[lambda], frame, 0);
            return GO;
        }

        private int condition(int n) {
            int head = path.need(path.r[n]);
            if (head == 0) {
                return GO;
            }
            if (path.tag[head] == NODE_VAR) {
                return path.waitFor(head);
            }
            int expr = path.p[n];
            path.set(n, NODE_EXPR, path.isCon(head, CON_TRUE) ? code.b[expr] : code.c[expr], path.q[n], 0);
            return GO;
        }

        private int guard(int n) {
            int head = path.need(path.r[n]);
            if (head == 0) {
                return GO;
            }
            if (path.tag[head] == NODE_VAR) {
                return path.waitFor(head);
            }
            int guard = path.p[n];
            int frame = path.q[n];
            if (path.isCon(head, CON_TRUE)) {
                path.set(n, NODE_EXPR, code.b[guard], frame, 0);
                return GO;
            }
            int other = code.next[guard];
            if (other == 0) {
                return FAILS;
            }
            path.set(n, NODE_GUARD, other, frame, nodeOf(code.a[other], frame));
            return GO;
        }

        /** Behind the one NODE of its block a case has its frame. */
        private int beginCases(int n, int expr, int frame) {
            int block = path.reserve(3);
            path.memory[block] = 1;
            path.memory[block + 1] = nodeOf(code.a[expr], frame);
            path.memory[block + 2] = frame;
            if (code.kind[expr] == EXPR_CASE) {
                path.set(n, NODE_CASE, code.b[expr], block, 0);
            } else {
                path.set(n, NODE_FCASE, expr, block, code.c[expr]);
            }
            return GO;
        }

        private int tryAlternatives(int n) {
            int block = path.q[n];
            turn++;
            for (int alt = path.p[n]; alt != 0; alt = code.next[alt]) {
                int cell = code.c[alt];
                boolean good = true;
                for (; good && cell != 0 && code.kind[cell] != BIND; cell = code.next[cell]) {
                    int head = path.need(nodeAt(block, code.b[cell]));
                    if (head == 0) {
                        return GO;
                    }
                    if (path.tag[head] == NODE_VAR) {
                        return path.waitFor(head);
                    }
                    good = code.kind[cell] == CHECK_CON ? path.isCon(head, code.a[cell])
                            : path.valueOf(head) == code.a[cell];
                }
                if (good) {
                    return takeAlternative(n, alt, cell);
                }
            }
            return FAILS;
        }

        private int takeAlternative(int n, int alt, int firstBind) {
            if (!path.step(code.d[alt])) {
                return GIVEN_UP;
            }
            int block = path.q[n];
            int frame = path.memory[block + 2];
            bindNames(firstBind, block, frame);
            path.set(n, NODE_EXPR, code.b[alt], frame, 0);
            return GO;
        }

        private void bindNames(int first, int block, int frame) {
            for (int cell = first; cell != 0; cell = code.next[cell]) {
                path.memory[frame + code.a[cell]] = nodeAt(block, code.b[cell]);
            }
        }

        /** All that is above the position has its HEAD; what was noted in this turn is not looked for again. */
        private int nodeAt(int block, int position) {
            way[0] = code.b[position];
            int depth = 1;
            int p = code.a[position];
            while (p != 0 && code.at[p] != turn && depth < DEPTH_ROOM) {
                way[depth] = code.b[p];
                depth++;
                p = code.a[p];
            }
            int place = p == 0 ? block : code.d[p];
            for (int i = depth - 1; i > 0; i--) {
                place = path.q[path.last(path.memory[place + way[i]])];
            }
            return path.memory[place + way[0]];
        }

        /** The HEAD that stands at a position has these NODES. */
        private void note(int position, int block) {
            code.at[position] = turn;
            code.d[position] = block;
        }

        /**
         * Goes along the TREE as far as HEADS are there. Where its latest OR has led is kept; what comes behind
         * that is not saved for a DECISION, since HEADS stay: when it is gone back to one, that is gone along
         * again. The TREE to which that leads; 0 if there is no child.
         */
        private int reach(int n) {
            turn++;
            int block = path.q[n];
            int tree = path.reached(n);
            for (int i = 0; i < CELL_ROOM && isBranch(tree); i++) {
                int position = code.a[tree];
                int head = path.last(nodeAt(block, position));
                if (!path.isHead(head) || path.tag[head] == NODE_VAR) {
                    path.keepReached(n, tree);
                    return tree;
                }
                note(position, path.q[head]);
                tree = childFor(tree, head);
            }
            return tree;
        }

        private boolean isBranch(int tree) {
            return code.kind[tree] == TREE_CON || code.kind[tree] == TREE_INT;
        }

        private int descend(int n) {
            int tree = reach(n);
            if (tree == 0) {
                return FAILS;
            }
            if (code.kind[tree] == TREE_LEAF) {
                return path.tag[n] == NODE_CALL ? takeRule(n, code.a[tree])
                        : takeAlternative(n, code.a[tree], code.c[code.a[tree]]);
            }
            path.choices = code.d[tree];
            if (code.kind[tree] == TREE_OR) {
                return DECIDES;
            }
            int head = path.need(nodeAt(path.q[n], code.a[tree]));
            if (head == 0) {
                return GO;
            }
            if (path.isOutside(head)) {
                return path.waitFor(head);
            }
            return path.choices > 1 ? DECIDES : narrow(tree, head, code.b[tree]);
        }

        private int childFor(int tree, int head) {
            boolean ints = code.kind[tree] == TREE_INT;
            for (int child = code.b[tree]; child != 0; child = code.next[child]) {
                if (ints ? path.valueOf(head) == code.c[child] : path.isCon(head, code.c[child])) {
                    return child;
                }
            }
            return 0;
        }

        private int takeRule(int n, int rule) {
            int side = code.c[rule];
            if (!path.step(code.d[side])) {
                return GIVEN_UP;
            }
            int frame = frame(0, code.c[side]);
            bindNames(code.next[side], path.q[n], frame);
            declare(code.b[side], frame);
            int first = code.a[side];
            if (code.kind[side] == RHS_PLAIN) {
                path.set(n, NODE_EXPR, first, frame, 0);
            } else {
                path.set(n, NODE_GUARD, first, frame, nodeOf(code.a[first], frame));
            }
            return GO;
        }

        /** Goes on with an ALTERNATIVE of a NODE that is at a DECISION. */
        int choose(int n, int alternative) {
            if (path.tag[n] == NODE_CALL && path.p[n] == FUN_LABEL) {
                return primitives.takeWay(n, alternative);
            }
            int tree = reach(n);
            int child = code.b[tree];
            for (int i = 0; i < alternative && child != 0; i++) {
                child = code.next[child];
            }
            if (code.kind[tree] != TREE_OR) {
                return narrow(tree, path.last(nodeAt(path.q[n], code.a[tree])), child);
            }
            path.set(n, path.tag[n], path.p[n], path.q[n], child);
            return GO;
        }

        /** Binds a FREE VAR to what a child of a BRANCH asks for: the TREE leads to that child then. */
        private int narrow(int tree, int variable, int child) {
            boolean ints = code.kind[tree] == TREE_INT;
            int con = code.c[child];
            int takes = ints ? 0 : tables.conTakes[con];
            if (!path.pay(1 + takes)) {
                return GIVEN_UP;
            }
            int head = ints ? path.number(con) : primitives.openData(con, takes);
            return primitives.bind(variable, head) ? GO : FAILS;
        }
    }

    /** What the PRIMITIVES do, and what is KEPT about numbers. */
    private static final class Primitives {
        private static final int MOST_CELLS = 32;
        private static final int MOST_KEPT = 60;
        private static final int MOST_VARS = 8;
        private static final int MOST_WAYS = 200;
        /** A label has one place more than VARS here; to try its ways costs more than that. */
        private static final int WAY_ROOM = MOST_LABOUR + MOST_VARS + 2;
        // What scanning a list comes to, if not to how many cells it has.
        private static final int SCAN_GOES = -1;
        private static final int SCAN_WAITS = -2;
        private static final int SCAN_GIVEN_UP = -3;
        private static final int HOLDS = 0;
        private static final int BROKEN = 1;
        private static final int UNKNOWN = 2;

        private final Tables tables;
        private final Path path;
        private final int[] keptFun = new int[MOST_KEPT];
        private final int[] keptBlock = new int[MOST_KEPT];
        int kept;
        /** A VAR was BOUND, or one more is KEPT, since all that is KEPT was looked at. */
        boolean unlooked;
        /** For each label that is at a DECISION: how many ways were taken, and the numbers of the latest one. */
        private final long[] ways = new long[WAY_ROOM];
        int waysFrom;
        int waysTop;
        private final int[] vars = new int[MOST_CELLS];
        private int varCount;
        private final long[] tried = new long[MOST_VARS];
        private int triedCount;
        private final long[] numbers = new long[MOST_CELLS];

        Primitives(Tables tables, Path path) {
            this.tables = tables;
            this.path = path;
        }

        void reset() {
            kept = 0;
            unlooked = false;
            waysFrom = 0;
            waysTop = 0;
            triedCount = 0;
        }

        boolean isMine(int n) {
            return path.tag[n] == NODE_CALL && path.p[n] < PRIMITIVES;
        }

        int step(int n) {
            int block = path.q[n];
            int fun = path.p[n];
            switch (fun) {
                case FUN_EQUAL:
                    return equal(n, block);
                case FUN_UNEQUAL:
                    return unequal(n, block);
                case FUN_EQUATION:
                    return equation(n, block);
                case FUN_BOTH:
                    return both(n, block);
                case FUN_SPAN:
                    return span(n, block);
                case FUN_SUM_AT_MOST: case FUN_SUM_EQUAL:
                    return sum(n, fun, block);
                case FUN_DIFFER:
                    return differ(n, block);
                case FUN_LABEL:
                    return label(n, block);
                default:
                    return calculate(n, fun, block);
            }
        }

        private int calculate(int n, int fun, int block) {
            int left = path.need(path.memory[block + 1]);
            if (left == 0) {
                return GO;
            }
            if (path.tag[left] == NODE_VAR) {
                return path.waitFor(left);
            }
            int right = path.need(path.memory[block + 2]);
            if (right == 0) {
                return GO;
            }
            if (path.tag[right] == NODE_VAR) {
                return path.waitFor(right);
            }
            if (!path.step(0)) {
                return GIVEN_UP;
            }
            long x = path.valueOf(left);
            long y = path.valueOf(right);
            switch (fun) {
                case FUN_PLUS: return becomeInt(n, x + y);
                case FUN_MINUS: return becomeInt(n, x - y);
                case FUN_TIMES: return becomeInt(n, x * y);
                case FUN_DIV: return y == 0 ? FAILS : becomeInt(n, Math.floorDiv(x, y));
                case FUN_MOD: return y == 0 ? FAILS : becomeInt(n, Math.floorMod(x, y));
                case FUN_BELOW: return becomeBool(n, x < y);
                case FUN_AT_MOST: return becomeBool(n, x <= y);
                case FUN_ABOVE: return becomeBool(n, x > y);
                default: return becomeBool(n, x >= y);
            }
        }

        private int becomeInt(int n, long value) {
            path.set(n, NODE_INT, (int) (value >> 32), (int) value, 0);
            return GO;
        }

        private int becomeBool(int n, boolean value) {
            path.set(n, NODE_DATA, value ? CON_TRUE : CON_FALSE, 0, 0);
            return GO;
        }

        private int equal(int n, int block) {
            int left = path.need(path.memory[block + 1]);
            if (left == 0) {
                return GO;
            }
            if (path.tag[left] == NODE_VAR) {
                return path.waitFor(left);
            }
            int right = path.need(path.memory[block + 2]);
            if (right == 0) {
                return GO;
            }
            if (path.tag[right] == NODE_VAR) {
                return path.waitFor(right);
            }
            boolean alike = isAlike(left, right);
            boolean data = alike && path.tag[left] == NODE_DATA;
            if (!path.step(data ? path.memory[path.q[left]] : 0)) {
                return GIVEN_UP;
            }
            if (path.isPart(left) || path.isPart(right)) {
                return FAILS;
            }
            return data ? join(n, FUN_EQUAL, FUN_AND_THEN, path.q[left], path.q[right]) : becomeBool(n, alike);
        }

        /** Two HEADS that are no VARS: the same INT, or DATA of the same constructor. */
        private boolean isAlike(int left, int right) {
            if (path.tag[left] != path.tag[right] || path.isPart(left)) {
                return false;
            }
            return path.p[left] == path.p[right] && (path.tag[left] == NODE_DATA || path.q[left] == path.q[right]);
        }

        private int unequal(int n, int block) {
            if (!path.step(0)) {
                return GIVEN_UP;
            }
            int not = path.block(1);
            path.memory[not + 1] = path.node(NODE_CALL, FUN_EQUAL, block, 0);
            path.set(n, NODE_CALL, FUN_NOT, not, tables.funTree[FUN_NOT]);
            return GO;
        }

        /** A NODE becomes f a1 b1 joined with (f a2 b2 joined with ..). */
        private int join(int n, int fun, int joint, int lefts, int rights) {
            int count = path.memory[lefts];
            if (count == 0) {
                return becomeBool(n, true);
            }
            int rest = 0;
            for (int i = count; i > 1; i--) {
                int both = path.pair(path.memory[lefts + i], path.memory[rights + i]);
                int call = path.node(NODE_CALL, fun, both, 0);
                rest = rest == 0 ? call : path.node(NODE_CALL, joint, path.pair(call, rest), tables.funTree[joint]);
            }
            int first = path.pair(path.memory[lefts + 1], path.memory[rights + 1]);
            if (rest == 0) {
                path.set(n, NODE_CALL, fun, first, 0);
            } else {
                int call = path.node(NODE_CALL, fun, first, 0);
                path.set(n, NODE_CALL, joint, path.pair(call, rest), tables.funTree[joint]);
            }
            return GO;
        }

        private int equation(int n, int block) {
            int left = path.need(path.memory[block + 1]);
            if (left == 0) {
                return GO;
            }
            int right = path.need(path.memory[block + 2]);
            if (right == 0) {
                return GO;
            }
            boolean leftFree = path.tag[left] == NODE_VAR;
            boolean rightFree = path.tag[right] == NODE_VAR;
            if (leftFree && rightFree) {
                return equateVars(n, left, right);
            }
            if (leftFree || rightFree) {
                return equateVar(n, leftFree ? left : right, leftFree ? right : left, leftFree);
            }
            boolean alike = isAlike(left, right);
            boolean data = alike && path.tag[left] == NODE_DATA;
            if (!path.step(data ? path.memory[path.q[left]] : 0)) {
                return GIVEN_UP;
            }
            if (data) {
                return join(n, FUN_EQUATION, FUN_BOTH, path.q[left], path.q[right]);
            }
            return alike ? becomeBool(n, true) : FAILS;
        }

        private int equateVars(int n, int left, int right) {
            if (!path.step(0)) {
                return GIVEN_UP;
            }
            if (left == right) {
                return becomeBool(n, true);
            }
            boolean leftOutside = path.isOutside(left);
            if (leftOutside && path.isOutside(right)) {
                return path.waitFor(left);
            }
            int bound = leftOutside ? right : left;
            int other = leftOutside ? left : right;
            if (path.isOutside(other) && path.q[bound] != 0) {
                return path.waitFor(other);
            }
            return bind(bound, other) ? becomeBool(n, true) : FAILS;
        }

        private int equateVar(int n, int variable, int head, boolean leftFree) {
            boolean data = path.tag[head] == NODE_DATA;
            int count = data ? path.memory[path.q[head]] : 0;
            if (!path.step(count)) {
                return GIVEN_UP;
            }
            if (path.isPart(head)) {
                return FAILS;
            }
            if (path.isOutside(variable)) {
                return path.waitFor(variable);
            }
            if (!data) {
                return bind(variable, head) ? becomeBool(n, true) : FAILS;
            }
            int shape = openData(path.p[head], count);
            if (!bind(variable, shape)) {
                return FAILS;
            }
            int fresh = path.q[shape];
            int given = path.q[head];
            return join(n, FUN_EQUATION, FUN_BOTH, leftFree ? fresh : given, leftFree ? given : fresh);
        }

        /** DATA of a constructor with new FREE VARS. */
        int openData(int con, int takes) {
            int block = path.block(takes);
            for (int i = 1; i <= takes; i++) {
                path.memory[block + i] = path.freeVar();
            }
            return path.node(NODE_DATA, con, block, 0);
        }

        /** Binds a FREE VAR to a HEAD; false if that FAILS. What is KEPT is looked at ahead of all that follows. */
        boolean bind(int variable, int head) {
            int span = path.q[variable];
            path.set(variable, NODE_VAR, head, span, 0);
            path.binds++;
            path.newVersion();
            unlooked = true;
            if (span != 0) {
                if (path.tag[head] == NODE_VAR) {
                    if (!cut(head, longAt(span), longAt(span + 2))) {
                        return false;
                    }
                } else if (path.valueOf(head) < longAt(span) || path.valueOf(head) > longAt(span + 2)) {
                    return false;
                }
            }
            return true;
        }

        private long longAt(int place) {
            return ((long) path.memory[place] << 32) | (path.memory[place + 1] & 0xffffffffL);
        }

        /** Cuts the SPAN of a FREE VAR; false if none is left. */
        private boolean cut(int variable, long least, long most) {
            int old = path.q[variable];
            long low = old == 0 ? least : Math.max(least, longAt(old));
            long high = old == 0 ? most : Math.min(most, longAt(old + 2));
            int span = path.reserve(4);
            path.memory[span] = (int) (low >> 32);
            path.memory[span + 1] = (int) low;
            path.memory[span + 2] = (int) (high >> 32);
            path.memory[span + 3] = (int) high;
            path.set(variable, NODE_VAR, 0, span, 0);
            path.newVersion();
            return low <= high;
        }

        /** The state of a & tells which of its sides is being EVALUATED, and the binds when its left one was begun. */
        private int both(int n, int block) {
            if (path.topState() == 0) {
                path.setTopState(beginsLeft());
            }
            boolean left = isLeft(path.topState());
            int head = path.need(path.memory[block + (left ? 1 : 2)]);
            if (head == 0) {
                return GO;
            }
            if (path.tag[head] == NODE_VAR) {
                return path.waitFor(head);
            }
            if (path.isCon(head, CON_TRUE)) {
                path.set(n, NODE_SAME, path.memory[block + (left ? 2 : 1)], 0, 0);
                path.setTopState(0);
                return GO;
            }
            return becomeBool(n, false);
        }

        private int beginsLeft() {
            return 2 * path.binds + 2;
        }

        private static boolean isLeft(int state) {
            return state % 2 == 0;
        }

        boolean isBoth(int n) {
            return path.tag[n] == NODE_CALL && path.p[n] == FUN_BOTH;
        }

        /** The & on top goes on although the side that was EVALUATED WAITS; false if it WAITS itself. */
        boolean goesOn() {
            int state = path.topState();
            if (isLeft(state)) {
                path.setTopState(state + 1);
                return true;
            }
            if (state - 1 == beginsLeft()) {
                return false;
            }
            path.setTopState(beginsLeft());
            return true;
        }

        /** What it costs to find again that both sides of a & WAIT; NONE if that is not known. */
        int costOfBoth(int n) {
            int left = costOfSide(path.memory[path.q[n] + 1]);
            int right = costOfSide(path.memory[path.q[n] + 2]);
            return left < 0 || right < 0 ? NONE : left + right;
        }

        private int costOfSide(int n) {
            int side = path.last(n);
            return path.tag[side] == NODE_VAR ? 0 : path.waitCost(side);
        }

        private int span(int n, int block) {
            int low = path.need(path.memory[block + 2]);
            if (low == 0) {
                return GO;
            }
            if (path.tag[low] == NODE_VAR) {
                return path.waitFor(low);
            }
            int high = path.need(path.memory[block + 3]);
            if (high == 0) {
                return GO;
            }
            if (path.tag[high] == NODE_VAR) {
                return path.waitFor(high);
            }
            int head = path.need(path.memory[block + 1]);
            if (head == 0) {
                return GO;
            }
            boolean free = path.tag[head] == NODE_VAR;
            if (free && path.isOutside(head)) {
                return path.waitFor(head);
            }
            if (!path.step(0)) {
                return GIVEN_UP;
            }
            long least = path.valueOf(low);
            long most = path.valueOf(high);
            boolean good = free ? cut(head, least, most)
                    : path.valueOf(head) >= least && path.valueOf(head) <= most;
            return good ? becomeBool(n, true) : FAILS;
        }

        /** Needs a list, each cell and directly behind it what is in it; how many cells it has, or SCAN_.. */
        private int scan(int list, boolean ints) {
            int place = list;
            for (int count = 0; count <= MOST_CELLS; count++) {
                int cell = path.need(place);
                if (cell == 0) {
                    return SCAN_GOES;
                }
                if (path.tag[cell] == NODE_VAR) {
                    path.cause = cell;
                    return SCAN_WAITS;
                }
                if (path.isCon(cell, CON_NIL)) {
                    return count;
                }
                if (count == MOST_CELLS) {
                    return SCAN_GIVEN_UP;
                }
                int head = path.need(path.part(cell, 1));
                if (head == 0) {
                    return SCAN_GOES;
                }
                if (path.tag[head] == NODE_VAR && (ints || path.isOutside(head))) {
                    path.cause = head;
                    return SCAN_WAITS;
                }
                place = path.part(cell, 2);
            }
            return SCAN_GIVEN_UP;
        }

        private int unscanned(int scan) {
            return scan == SCAN_GOES ? GO : scan == SCAN_WAITS ? WAITS : GIVEN_UP;
        }

        private int sum(int n, int fun, int block) {
            int factors = scan(path.memory[block + 1], true);
            if (factors < 0) {
                return unscanned(factors);
            }
            int parts = scan(path.memory[block + 2], false);
            if (parts < 0) {
                return unscanned(parts);
            }
            int total = path.need(path.memory[block + 3]);
            if (total == 0) {
                return GO;
            }
            if (path.tag[total] == NODE_VAR) {
                return path.waitFor(total);
            }
            if (!path.step(0)) {
                return GIVEN_UP;
            }
            return factors != parts ? FAILS : keep(n, fun, block);
        }

        private int differ(int n, int block) {
            int parts = scan(path.memory[block + 1], false);
            if (parts < 0) {
                return unscanned(parts);
            }
            return path.step(0) ? keep(n, FUN_DIFFER, block) : GIVEN_UP;
        }

        private int keep(int n, int fun, int block) {
            if (kept >= MOST_KEPT) {
                return GIVEN_UP;
            }
            keptFun[kept] = fun;
            keptBlock[kept] = block;
            kept++;
            path.newVersion();
            unlooked = true;
            return becomeBool(n, true);
        }

        boolean allHold() {
            unlooked = false;
            for (int i = 0; i < kept; i++) {
                if (holds(i) == BROKEN) {
                    return false;
                }
            }
            return true;
        }

        /** Whether what is KEPT is so, by the numbers that are BOUND or tried; UNKNOWN if one is lacking. */
        private int holds(int i) {
            boolean sum = keptFun[i] != FUN_DIFFER;
            int block = keptBlock[i];
            int factors = path.last(path.memory[block + 1]);
            int parts = sum ? path.last(path.memory[block + 2]) : factors;
            long total = 0;
            int count = 0;
            for (; count < MOST_CELLS && path.isCon(parts, CON_CONS); count++) {
                int head = path.last(path.part(parts, 1));
                if (path.tag[head] == NODE_VAR && (path.r[head] == 0 || path.r[head] > triedCount)) {
                    return UNKNOWN;
                }
                numbers[count] = path.tag[head] == NODE_VAR ? tried[path.r[head] - 1] : path.valueOf(head);
                if (sum) {
                    total += numbers[count] * path.valueOf(path.last(path.part(factors, 1)));
                    factors = path.last(path.part(factors, 2));
                }
                parts = path.last(path.part(parts, 2));
            }
            if (!sum) {
                return areDifferent(count) ? HOLDS : BROKEN;
            }
            long bound = path.valueOf(path.last(path.memory[block + 3]));
            return (keptFun[i] == FUN_SUM_EQUAL ? total == bound : total <= bound) ? HOLDS : BROKEN;
        }

        private boolean areDifferent(int count) {
            for (int i = 0; i < count; i++) {
                for (int j = 0; j < i; j++) {
                    if (numbers[i] == numbers[j]) {
                        return false;
                    }
                }
            }
            return true;
        }

        private int label(int n, int block) {
            int parts = scan(path.memory[block + 1], false);
            if (parts < 0) {
                return unscanned(parts);
            }
            collectVars(path.memory[block + 1]);
            for (int i = 0; i < varCount; i++) {
                if (path.q[vars[i]] == 0) {
                    return path.waitFor(vars[i]);
                }
            }
            if (varCount > MOST_VARS || !path.step(0)) {
                return GIVEN_UP;
            }
            if (waysTop + varCount >= WAY_ROOM) {
                return GIVEN_UP;
            }
            waysFrom = waysTop;
            ways[waysFrom] = 0;
            int found = varCount == 0 ? 1 : 0;
            markVars(true);
            int more = varCount == 0 ? 0 : nextWay(true, 1);
            for (; more > 0 && found < MOST_WAYS; found++) {
                if (found == 0) {
                    System.arraycopy(tried, 0, ways, waysFrom + 1, varCount);
                }
                more = nextWay(false, 1);
            }
            markVars(false);
            if (more != 0) {
                return GIVEN_UP;
            }
            if (found < 2) {
                return found == 0 ? FAILS : bindWay(n);
            }
            waysTop += varCount + 1;
            path.choices = found;
            return DECIDES;
        }

        /** The FREE VARS of a list that was scanned, as they come first. */
        private void collectVars(int list) {
            varCount = 0;
            int cell = path.last(list);
            for (int i = 0; i < MOST_CELLS && path.isCon(cell, CON_CONS); i++) {
                int head = path.last(path.part(cell, 1));
                boolean fresh = path.tag[head] == NODE_VAR;
                for (int j = 0; j < varCount && fresh; j++) {
                    fresh = vars[j] != head;
                }
                if (fresh) {
                    vars[varCount] = head;
                    varCount++;
                }
                cell = path.last(path.part(cell, 2));
            }
        }

        /** Goes on to the next way, for so much LABOUR a try: 1, 0 if there is none, NONE if that is GIVEN UP. */
        private int nextWay(boolean first, int cost) {
            int i = first ? 0 : nextTry(varCount - 1);
            if (first) {
                tried[0] = longAt(path.q[vars[0]]);
            }
            for (int tries = 0; tries <= MOST_LABOUR && i >= 0; tries++) {
                if (!path.pay(cost)) {
                    return NONE;
                }
                triedCount = i + 1;
                if (!allHold()) {
                    i = nextTry(i);
                } else if (i == varCount - 1) {
                    return 1;
                } else {
                    i++;
                    tried[i] = longAt(path.q[vars[i]]);
                }
            }
            return i < 0 ? 0 : NONE;
        }

        /** Of the VARS up to this one the last one that has a number more gets it; NONE if none has. */
        private int nextTry(int last) {
            int i = last;
            while (i >= 0 && tried[i] == longAt(path.q[vars[i]] + 2)) {
                i--;
            }
            if (i >= 0) {
                tried[i]++;
            }
            return i;
        }

        /** While numbers are tried, VARS are marked with where theirs is. */
        private void markVars(boolean marked) {
            triedCount = 0;
            for (int i = 0; i < varCount; i++) {
                path.r[vars[i]] = marked ? i + 1 : 0;
            }
        }

        /** Goes on from the way that was taken before: that is cheaper than to keep them all. */
        int takeWay(int n, int way) {
            collectVars(path.memory[path.q[n] + 1]);
            if (varCount > MOST_VARS || waysFrom + varCount >= WAY_ROOM) {
                return GIVEN_UP;
            }
            markVars(true);
            System.arraycopy(ways, waysFrom + 1, tried, 0, varCount);
            // In WINDOWS it may have been gone back to a DECISION ahead, and come to this one again.
            for (long i = ways[waysFrom] > way + 1 ? 0 : ways[waysFrom]; i <= way && varCount > 0; i++) {
                nextWay(i == 0, 0);
            }
            ways[waysFrom] = way + 1;
            System.arraycopy(tried, 0, ways, waysFrom + 1, varCount);
            markVars(false);
            return bindWay(n);
        }

        private int bindWay(int n) {
            for (int i = 0; i < varCount; i++) {
                if (!bind(vars[i], path.number(ways[waysFrom + 1 + i]))) {
                    return FAILS;
                }
            }
            return becomeBool(n, true);
        }
    }

    /**
     * Turns of the evaluation: NORMAL FORM, WAITING, DECISIONS and CAPSULES.
     *
     * A NODE that WAITS is not EVALUATED again as long as nothing was done that it might WAIT for:
     * what that would cost is known, and all else that it would do is to WAIT again.
     */
    private static final class Machine {
        // A DECISION: three places. In the first one: its next ALTERNATIVE, how many there are, ..
        private static final int CHOICE = 3;
        private static final int CHOICE_ROOM = MOST_LABOUR + MOST_PLACES + 2;
        private static final int COUNT_AT = 10;
        private static final int KEPT_AT = 20;
        private static final int NODES_AT = 26;
        private static final int TRAIL_AT = 42;
        // in the second one: how much memory was used, ..
        private static final int TODO_AT = 17;
        private static final int WAYS_FROM_AT = 34;
        private static final int WAYS_TOP_AT = 48;
        // in the third one: the top of the stack, the marks, and what was known and seen of the stack before.
        private static final int MARKED_AT = 16;
        private static final int KNOWN_AT = 32;
        private static final int SEEN_AT = 48;
        // Bits of a count of ALTERNATIVES, of NODES, of memory, of LABOUR (and ways, and STEPS).
        private static final int COUNT_BITS = 10;
        private static final int NODE_BITS = 16;
        private static final int MEMORY_BITS = 17;
        private static final int LABOUR_BITS = 14;
        // Outside of CAPSULES a DECISION has the LABOUR of the PATH up to there, and:
        private static final int STEPS_AT = 14;
        private static final int DEPTH_AT = 28;
        private static final int BINDS_AT = 38;
        // A mark: from which level on & has this half of its state (the other half is its side), up to the next one.
        private static final int MARK_ROOM = 2 * MOST_LABOUR + 2 * MOST_PLACES + 100;
        private static final int HALF_AT = 16;
        private static final int LEVEL_BITS = (1 << HALF_AT) - 1;
        // A CAPSULE that is being worked out:
        private static final int CAPSULE_NODE = 0;
        private static final int CAPSULE_TOP = 1;
        private static final int CAPSULE_NODES = 2;
        private static final int CAPSULE_USED = 3;
        private static final int CAPSULE_TRAIL = 4;
        private static final int CAPSULE_KEPT = 5;
        private static final int CAPSULE_CHOICES = 6;
        private static final int CAPSULE_TODO = 7;
        private static final int CAPSULE_VALUES = 8;
        private static final int CAPSULE_STEPS = 9;
        private static final int CAPSULE_BINDS = 10;
        private static final int CAPSULE_GUARD = 11;
        private static final int CAPSULE_WAYS = 12;
        private static final int CAPSULE_ROOT = 13;
        private static final int CAPSULE_LABOUR = 14;
        private static final int CAPSULE_SEEN = 15;
        private static final int CAPSULE_KNOWN = 16;
        private static final int CAPSULE = 17;
        // Entries of VALUES; INT and DATA are NODE_INT and NODE_DATA. At a VALUE's end is how many VARS it has.
        private static final int ENTRY_END = 0;
        private static final int ENTRY_OUTSIDE = 1;
        private static final int ENTRY_VAR = 2;
        /** Each HEAD of a VALUE costs LABOUR, and each VALUE one more. */
        private static final int ENTRY_ROOM = MOST_LABOUR + 2;
        /** A VALUE with more HEADS than this is too much LABOUR. */
        private static final int PILE_ROOM = MOST_LABOUR + 2;

        private final Tables tables;
        final Path path;
        final Steps steps;
        private final Primitives primitives;
        private final long[] choice = new long[CHOICE_ROOM * CHOICE];
        /** Of DECISIONS outside of CAPSULES: the LABOUR, STEPS and binds of the PATH up to there, and its DEPTH. */
        private final long[] counts = new long[MOST_PLACES + 2];
        int choices;
        /** Half the states of levels that a DECISION has seen as no one ahead of it has. */
        private final int[] marks = new int[MARK_ROOM];
        private int marked;
        /** Up to which level the stack is put up again; 0 if it is not. */
        private int told;
        private final int[] capsule = new int[(MOST_CAPSULES + 1) * CAPSULE];
        private int level;
        /** Cells of NODES that are still to be brought to NORMAL FORM, and the next cell. */
        private int todo;
        /** Of what WAITS: the LABOUR that it costs to find that again. */
        private int waitCost;
        private final int[] entrySort = new int[ENTRY_ROOM];
        private final long[] entryValue = new long[ENTRY_ROOM];
        private int entries;
        /** VARS of one VALUE. */
        private final int[] valueVars = new int[MOST_LABOUR + 2];
        /** NODES of a VALUE that is taken to pieces or put together. */
        private final int[] pile = new int[PILE_ROOM];
        private int piled;
        private int alternative;

        Machine(Code code, Tables tables) {
            this.tables = tables;
            path = new Path();
            primitives = new Primitives(tables, path);
            steps = new Steps(code, tables, path, primitives);
        }

        void reset() {
            forgetTold();
            path.reset();
            primitives.reset();
            choices = 0;
            marked = 0;
            level = 0;
            todo = 0;
            waitCost = 0;
            entries = 0;
        }

        /** Puts a NODE ahead of what is to be brought to NORMAL FORM. */
        void bring(int n) {
            todo = cell(n, todo);
        }

        private int cell(int n, int rest) {
            int cell = path.reserve(2);
            path.memory[cell] = n;
            path.memory[cell + 1] = rest;
            return cell;
        }

        private int base() {
            return level == 0 ? 0 : capsule[level * CAPSULE + CAPSULE_TOP];
        }

        /** Goes on up to the next PLACE outside of all CAPSULES. */
        int run(int first) {
            int turn = first;
            for (int i = 0; i < MOST_TURNS; i++) {
                switch (turn) {
                    case GO:
                        turn = goOn();
                        break;
                    case EVALUATES:
                        int n = path.topNode();
                        turn = primitives.isMine(n) ? primitives.step(n) : steps.step(n);
                        break;
                    case WAITS:
                        turn = unwind();
                        break;
                    case BEGINS:
                        turn = beginCapsule();
                        break;
                    case CHOOSES:
                        turn = steps.choose(path.topNode(), alternative);
                        break;
                    case GIVEN_UP:
                        return giveUp();
                    default:
                        if (level == 0) {
                            return turn;
                        }
                        turn = goOnInCapsule(turn);
                        break;
                }
            }
            return giveUp();
        }

        /** DECISIONS and VALUES of CAPSULES are gone with the PATH. */
        private int giveUp() {
            if (level > 0) {
                choices = capsule[CAPSULE + CAPSULE_CHOICES];
                entries = capsule[CAPSULE + CAPSULE_VALUES];
                path.seen = capsule[CAPSULE + CAPSULE_SEEN];
                level = 0;
            }
            return GIVEN_UP;
        }

        /** Finds what is to be EVALUATED next: a NODE that is no HEAD and not OUTSIDE is on top then. */
        private int goOn() {
            if (path.full) {
                return GIVEN_UP;
            }
            if (told > 0) {
                return goDown();
            }
            if (primitives.unlooked && !primitives.allHold()) {
                return FAILS;
            }
            if (path.top == base()) {
                return normalForm();
            }
            int n = path.topNode();
            if (path.isHead(n)) {
                path.pop();
                return GO;
            }
            if (path.isOutside(n)) {
                giveUpCapsules(n);
                path.push(n);
                return GO;
            }
            int cost = path.waitCost(n);
            if (cost < 0 || !path.pay(cost)) {
                return EVALUATES;
            }
            path.pop();
            waitCost = cost;
            return WAITS;
        }

        private int normalForm() {
            if (todo == 0) {
                return VALUE;
            }
            int n = path.need(path.memory[todo]);
            if (n == 0) {
                return GO;
            }
            if (!path.pay(1) || (level > 0 && path.isPart(n))) {
                return GIVEN_UP;
            }
            int rest = path.memory[todo + 1];
            if (path.tag[n] == NODE_DATA) {
                for (int i = path.memory[path.q[n]]; i > 0; i--) {
                    rest = cell(path.part(n, i), rest);
                }
            }
            todo = rest;
            return GO;
        }

        /** Ends what is under way, up to the innermost & around that can go on. */
        private int unwind() {
            if (path.cause != 0 && path.isOutside(path.cause)) {
                giveUpCapsules(path.cause);
            }
            path.cause = 0;
            int cost = waitCost;
            waitCost = 0;
            int base = base();
            while (path.top > base) {
                int n = path.topNode();
                if (path.tag[n] == NODE_CAPSULE) {
                    cost = cost < 0 ? cost : cost + givenUpCost();
                } else if (path.topState() > 0) {
                    if (primitives.goesOn()) {
                        return GO;
                    }
                    cost = primitives.costOfBoth(n);
                }
                cost = Math.min(cost, MOST_LABOUR + 1);
                path.keepWait(n, cost);
                path.pop();
            }
            return STUCK;
        }

        private static int bits(long place, int at, int size) {
            return (int) (place >>> at) & ((1 << size) - 1);
        }

        /** The NODE on top of the stack is at a DECISION. */
        void addChoice(int depth) {
            if (choices >= CHOICE_ROOM || path.top == 0) {
                path.full = true;
                return;
            }
            long before = (long) path.seen << SEEN_AT | (long) path.known << KNOWN_AT;
            if (!markStates()) {
                path.full = true;
                return;
            }
            int at = choices * CHOICE;
            choice[at] = (long) path.choices << COUNT_AT | (long) primitives.kept << KEPT_AT
                    | (long) path.nodes << NODES_AT | (long) path.trailed << TRAIL_AT;
            choice[at + 1] = path.used | (long) todo << TODO_AT
                    | (long) primitives.waysFrom << WAYS_FROM_AT | (long) primitives.waysTop << WAYS_TOP_AT;
            choice[at + 2] = path.top | (long) marked << MARKED_AT | before;
            if (level == 0 && choices < counts.length) {
                counts[choices] = path.labour | (long) path.steps << STEPS_AT
                        | (long) depth << DEPTH_AT | (long) path.binds << BINDS_AT;
            }
            choices++;
        }

        /** Goes back to the latest DECISION, for its next ALTERNATIVE: with the last one it is over. */
        private void nextChoice() {
            restoreChoice();
            int at = (choices - 1) * CHOICE;
            alternative = bits(choice[at], 0, COUNT_BITS);
            choice[at]++;
            if (alternative + 1 >= bits(choice[at], COUNT_AT, COUNT_BITS)) {
                choices--;
                look(bits(choice[at + 2], SEEN_AT, NODE_BITS), bits(choice[at + 2], KNOWN_AT, NODE_BITS));
                guardOlder();
            }
        }

        /** Goes back to the latest DECISION; what was laboured since stays counted. */
        private void restoreChoice() {
            int at = (choices - 1) * CHOICE;
            path.nodes = bits(choice[at], NODES_AT, NODE_BITS);
            path.undo(bits(choice[at], TRAIL_AT, NODE_BITS));
            path.newEra();
            path.newVersion();
            path.used = bits(choice[at + 1], 0, MEMORY_BITS);
            primitives.kept = bits(choice[at], KEPT_AT, NODES_AT - KEPT_AT);
            primitives.waysFrom = bits(choice[at + 1], WAYS_FROM_AT, LABOUR_BITS);
            primitives.waysTop = bits(choice[at + 1], WAYS_TOP_AT, LABOUR_BITS);
            todo = bits(choice[at + 1], TODO_AT, MEMORY_BITS);
            long seen = Math.min(path.seen, bits(choice[at + 2], SEEN_AT, NODE_BITS));
            tellStates(bits(choice[at + 2], 0, NODE_BITS), bits(choice[at + 2], MARKED_AT, NODE_BITS));
            choice[at + 2] = choice[at + 2] & ((1L << SEEN_AT) - 1) | seen << SEEN_AT;
            guardOlder();
        }

        /** What is older than the latest DECISION is saved from now on. */
        private void guardOlder() {
            int first = level == 0 ? 0 : capsule[level * CAPSULE + CAPSULE_CHOICES];
            int oldest = level == 0 ? 0 : path.inside;
            path.guard = choices > first ? bits(choice[(choices - 1) * CHOICE], NODES_AT, NODE_BITS) : oldest;
        }

        /**
         * For a DECISION: the states of levels that none ahead of it has written down. In a CAPSULE, levels
         * below it stay as they are.
         */
        private boolean markStates() {
            int half = 0;
            int turned = 0;
            for (int i = Math.max(path.known, base()) + 1; i <= path.top; i++) {
                int state = path.stateAt(i);
                if (state == 0) {
                    continue;
                }
                int n = path.nodeAt(i);
                if (path.tag[n] == NODE_CAPSULE) {
                    path.keepGivenUp(n, i < path.top ? path.nodeAt(i + 1) : 0, state - 1);
                    // What was saved for that lies behind those that were turned.
                    turned = 0;
                    continue;
                }
                if (path.r[n] != state % 2) {
                    turned = path.turnFor(n, turned);
                }
                if (half != state / 2) {
                    half = state / 2;
                    if (marked >= MARK_ROOM) {
                        return false;
                    }
                    marks[marked] = half << HALF_AT | i;
                    marked++;
                }
            }
            path.seen = path.top;
            path.known = path.top;
            return true;
        }

        /** Goes back to the levels that a DECISION has seen as they are, and tells those above half their states. */
        private void tellStates(int depth, int newMarked) {
            int seen = Math.min(path.seen, depth);
            forgetTold();
            path.cutStack(seen);
            told = depth;
            marked = newMarked;
            int end = depth;
            for (int i = marked - 1; i >= 0 && end > seen; i--) {
                int first = marks[i] & LEVEL_BITS;
                long state = marks[i] >>> HALF_AT << 1;
                for (int at = end; at >= first && at > seen; at--) {
                    path.stack[at] = state << Path.STATE_AT;
                }
                end = Math.min(end, first - 1);
            }
            path.seen = depth;
            path.known = depth;
        }

        /** If the PATH was GIVEN UP meanwhile, there are states above the top of the stack that go with it. */
        private void forgetTold() {
            path.top = Math.max(path.top, told);
            told = 0;
        }

        /** Tells what the DECISION that is the latest one now has seen of the stack, and what was known then. */
        private void look(int seen, int known) {
            path.seen = seen;
            path.known = known;
            marked = choices > 0 ? bits(choice[choices * CHOICE - 1], MARKED_AT, NODE_BITS) : 0;
        }

        /** Puts up one level more of the stack as it was at the DECISION; at last the ALTERNATIVE is chosen. */
        private int goDown() {
            if (path.top == base() && path.top < told) {
                path.need(path.memory[todo]);
                return GO;
            }
            int n = path.topNode();
            if (path.top >= told) {
                path.tellTopState(0);
                told = 0;
                return CHOOSES;
            }
            if (path.tag[n] == NODE_CAPSULE) {
                path.tellTopState(path.givenUpCost(n) + 1);
                path.push(path.last(path.givenUpFor(n)));
                return GO;
            }
            path.tellTopState(primitives.isBoth(n) ? path.topState() & -2 | path.r[n] : 0);
            return EVALUATES;
        }

        /** Outside of CAPSULES: back to the latest DECISION, whose DEPTH is told; alternative() is next. */
        int goBack() {
            int depth = bits(counts[choices - 1], DEPTH_AT, COUNT_BITS);
            countAsAt(choices - 1);
            nextChoice();
            return depth;
        }

        /** Outside of CAPSULES: back to a DECISION that stays, for the ALTERNATIVE told; those behind it are gone. */
        void goBackTo(int decision, int newAlternative) {
            for (; choices > decision + 1; choices--) {
                path.seen = Math.min(path.seen, bits(choice[choices * CHOICE - 1], SEEN_AT, NODE_BITS));
            }
            if (choices <= decision) {
                path.full = true;
                return;
            }
            countAsAt(decision);
            restoreChoice();
            alternative = newAlternative;
        }

        private void countAsAt(int at) {
            level = 0;
            path.inside = 0;
            path.full = false;
            path.labour = bits(counts[at], 0, LABOUR_BITS);
            path.steps = bits(counts[at], STEPS_AT, LABOUR_BITS);
            path.binds = bits(counts[at], BINDS_AT, NODE_BITS);
        }

        int alternative() {
            return alternative;
        }

        private int beginCapsule() {
            if (level >= MOST_CAPSULES) {
                return GIVEN_UP;
            }
            int n = path.topNode();
            level++;
            int at = level * CAPSULE;
            capsule[at + CAPSULE_NODE] = n;
            capsule[at + CAPSULE_TOP] = path.top;
            capsule[at + CAPSULE_NODES] = path.nodes;
            capsule[at + CAPSULE_USED] = path.used;
            capsule[at + CAPSULE_TRAIL] = path.trailed;
            capsule[at + CAPSULE_KEPT] = primitives.kept;
            capsule[at + CAPSULE_CHOICES] = choices;
            capsule[at + CAPSULE_TODO] = todo;
            capsule[at + CAPSULE_VALUES] = entries;
            capsule[at + CAPSULE_STEPS] = path.steps;
            capsule[at + CAPSULE_BINDS] = path.binds;
            capsule[at + CAPSULE_GUARD] = path.guard;
            capsule[at + CAPSULE_WAYS] = primitives.waysTop;
            capsule[at + CAPSULE_LABOUR] = path.labour;
            capsule[at + CAPSULE_SEEN] = path.seen;
            capsule[at + CAPSULE_KNOWN] = path.known;
            path.inside = path.nodes;
            path.guard = path.nodes;
            int fun = path.p[n];
            capsule[at + CAPSULE_ROOT] = path.node(NODE_CALL, fun, path.q[n], tables.funTree[fun]);
            todo = cell(capsule[at + CAPSULE_ROOT], 0);
            return GO;
        }

        /** All of a CAPSULE, and of those in it, is gone; its NODE is on top of the stack. */
        private void leaveCapsule(int left) {
            int at = left * CAPSULE;
            path.nodes = capsule[at + CAPSULE_NODES];
            path.used = capsule[at + CAPSULE_USED];
            path.trailed = capsule[at + CAPSULE_TRAIL];
            path.guard = capsule[at + CAPSULE_GUARD];
            path.cutStack(capsule[at + CAPSULE_TOP]);
            primitives.kept = capsule[at + CAPSULE_KEPT];
            primitives.waysTop = capsule[at + CAPSULE_WAYS];
            choices = capsule[at + CAPSULE_CHOICES];
            look(capsule[at + CAPSULE_SEEN], capsule[at + CAPSULE_KNOWN]);
            todo = capsule[at + CAPSULE_TODO];
            level = left - 1;
            path.inside = level == 0 ? 0 : capsule[level * CAPSULE + CAPSULE_NODES];
        }

        /** Gives up all CAPSULES of which a NODE is OUTSIDE; the outermost one is on top of the stack then. */
        private void giveUpCapsules(int n) {
            int outermost = level;
            while (outermost > 1 && n < capsule[(outermost - 1) * CAPSULE + CAPSULE_NODES]) {
                outermost--;
            }
            leaveCapsule(outermost);
            entries = capsule[outermost * CAPSULE + CAPSULE_VALUES];
            path.steps = capsule[outermost * CAPSULE + CAPSULE_STEPS];
            path.binds = capsule[outermost * CAPSULE + CAPSULE_BINDS];
            path.setTopState(path.labour - capsule[outermost * CAPSULE + CAPSULE_LABOUR] + 1);
        }

        /** What the CAPSULE on top LABOURED when it was given up. */
        private int givenUpCost() {
            return Math.max(0, path.topState() - 1);
        }

        /** A PLACE in a CAPSULE. */
        private int goOnInCapsule(int turn) {
            if (turn == DECIDES) {
                addChoice(0);
            } else if (turn == VALUE && !keepValue()) {
                return GIVEN_UP;
            }
            if (choices == capsule[level * CAPSULE + CAPSULE_CHOICES]) {
                finishCapsule();
                return GO;
            }
            nextChoice();
            return path.pay(1) ? GO : GIVEN_UP;
        }

        /** Writes the VALUE down, each HEAD ahead of what is in it; false if that is too much LABOUR. */
        private boolean keepValue() {
            int heads = 0;
            int vars = 0;
            piled = 0;
            pile(capsule[level * CAPSULE + CAPSULE_ROOT]);
            for (; piled > 0; heads++) {
                piled--;
                int n = path.last(pile[piled]);
                if (heads >= MOST_LABOUR - path.labour || path.full) {
                    return false;
                }
                if (path.tag[n] == NODE_DATA) {
                    addEntry(NODE_DATA, path.p[n]);
                    for (int i = path.memory[path.q[n]]; i > 0; i--) {
                        pile(path.part(n, i));
                    }
                } else if (path.tag[n] == NODE_INT) {
                    addEntry(NODE_INT, path.valueOf(n));
                } else if (path.isOutside(n)) {
                    addEntry(ENTRY_OUTSIDE, n);
                } else {
                    // The VAR itself tells where it is in the row.
                    if (path.r[n] == 0) {
                        valueVars[vars] = n;
                        vars++;
                        path.r[n] = vars;
                    }
                    addEntry(ENTRY_VAR, path.r[n] - 1);
                }
            }
            for (int i = 0; i < vars; i++) {
                path.r[valueVars[i]] = 0;
            }
            addEntry(ENTRY_END, vars);
            return path.pay(heads);
        }

        private void pile(int n) {
            if (piled >= PILE_ROOM) {
                path.full = true;
                return;
            }
            pile[piled] = n;
            piled++;
        }

        private void addEntry(int sort, long value) {
            if (entries >= ENTRY_ROOM) {
                path.full = true;
                return;
            }
            entrySort[entries] = sort;
            entryValue[entries] = value;
            entries++;
        }

        /** From the last entry on what is in a HEAD comes ahead of it, and the list from its end on. */
        private void finishCapsule() {
            int n = capsule[level * CAPSULE + CAPSULE_NODE];
            int first = capsule[level * CAPSULE + CAPSULE_VALUES];
            leaveCapsule(level);
            int list = path.node(NODE_DATA, CON_NIL, 0, 0);
            piled = 0;
            while (entries > first) {
                entries--;
                int value = (int) entryValue[entries];
                switch (entrySort[entries]) {
                    case ENTRY_END:
                        list = putAhead(list);
                        Arrays.fill(valueVars, 0, value, 0);
                        break;
                    case ENTRY_OUTSIDE:
                        pile(value);
                        break;
                    case ENTRY_VAR:
                        if (valueVars[value] == 0) {
                            valueVars[value] = path.freeVar();
                        }
                        pile(valueVars[value]);
                        break;
                    case NODE_INT:
                        pile(path.number(entryValue[entries]));
                        break;
                    default:
                        pileData(value);
                        break;
                }
            }
            list = putAhead(list);
            path.set(n, NODE_DATA, path.p[list], path.q[list], 0);
        }

        /** Puts the VALUE that is in the pile, if there is one, ahead of a list. */
        private int putAhead(int list) {
            if (piled == 0) {
                return list;
            }
            piled = 0;
            return path.node(NODE_DATA, CON_CONS, path.pair(pile[0], list), 0);
        }

        private void pileData(int con) {
            int count = tables.conTakes[con];
            if (piled < count) {
                path.full = true;
                return;
            }
            int block = path.block(count);
            for (int i = 1; i <= count; i++) {
                path.memory[block + i] = pile[piled - i];
            }
            piled -= count;
            pile(path.node(NODE_DATA, con, block, 0));
        }
    }

    /** A SEARCH: in which order PLACES are come to, and what is told of the latest VALUE. */
    private static final class Search {
        /** More than a Query's tokens can tell. */
        private static final int FREE_ROOM = 1024;
        private static final int WINDOWS = 1;
        private static final int BOUNDED = 2;
        // Where counts() has them.
        private static final int PLACES = 3;
        private static final int VALUES = 4;
        private static final int FAILED = 5;
        private static final int WAITING = 6;
        private static final int LOST = 7;
        private static final int CUT = 8;
        private static final int LABOUR = 9;
        private static final int STEPS = 10;
        private static final int DECISIONS = 11;
        private static final int BINDS = 12;
        private static final int FREE_NAMES = 13;
        // Rows of windows: of a DECISION the one ahead, that one's ALTERNATIVE, its DEPTH, how many ALTERNATIVES it
        // has, and how many were begun;
        private static final int AHEAD = 0;
        private static final int ALTERNATIVE = 1;
        private static final int DEPTH = 2;
        private static final int COUNT = 3;
        private static final int BEGUN = 4;
        // the DECISIONS on the PATH, by their DEPTH; those of this WINDOW whose ALTERNATIVES were not all begun (the
        // latest one is next); and those whose ALTERNATIVES are for the next WINDOW, as they come.
        private static final int ON_PATH = 5;
        private static final int OPEN = 6;
        private static final int NEXT = 7;
        private static final int ROWS = 8;
        // What next() answers.
        private static final int NO_MORE = 0;
        private static final int ONE_MORE = 1;
        private static final int SPENT = 2;

        private final Code code;
        private final Out out;
        private final Machine machine;
        boolean alive;
        int query;
        private int way;
        private int bound;
        private boolean begun;
        private int ended;
        boolean valued;
        private final int[] counts = new int[14];
        private int total;
        /** The LABOUR of the PATH up to its latest DECISION. */
        private int counted;
        private int depth;
        private final int[] alternatives = new int[MOST_PLACES + 1];
        final int[] valueAlternatives = new int[MOST_PLACES + 1];
        private final int[][] windows = new int[ROWS][MOST_PLACES + 1];
        private int decisions;
        private int opened;
        private int queueFirst;
        private int queueLast;
        private final int[] freeCells = new int[FREE_ROOM];
        /** NODES of the PATH: of the Expr, and of the free names. */
        private final int[] roots = new int[FREE_ROOM + 1];

        Search(Code code, Tables tables, Out out) {
            this.code = code;
            this.out = out;
            machine = new Machine(code, tables);
        }

        void stop() {
            alive = false;
            valued = false;
            Arrays.fill(counts, 0);
        }

        void start(int newQuery, int newWay, int newBound) {
            stop();
            alive = true;
            query = newQuery;
            way = newWay;
            bound = newBound;
            begun = false;
            ended = ONE_MORE;
            total = 0;
            counted = 0;
            depth = 0;
            decisions = 0;
            opened = 0;
            queueFirst = 0;
            queueLast = 0;
            machine.choices = 0;
            for (int decl = code.b[query]; decl != 0; decl = code.next[decl]) {
                for (int name = code.kind[decl] == BLOCK_FREE ? code.a[decl] : 0; name != 0; name = code.next[name]) {
                    if (counts[FREE_NAMES] < FREE_ROOM) {
                        freeCells[counts[FREE_NAMES]] = name;
                        counts[FREE_NAMES]++;
                    }
                }
            }
        }

        int tell(int what) {
            return counts[what];
        }

        int freeName(int i) {
            return code.a[freeCells[i]];
        }

        /** Goes on to the next VALUE, and tells whether there is one. */
        int search() {
            for (int i = 0; i <= MOST_PLACES + 1 && ended == ONE_MORE; i++) {
                if (begun && !hasMore()) {
                    ended = NO_MORE;
                } else if (counts[PLACES] >= MOST_PLACES || total > MOST_TOTAL) {
                    ended = SPENT;
                } else {
                    beginNext();
                    if (comeTo(machine.run(GO))) {
                        return ONE_MORE;
                    }
                }
            }
            return ended;
        }

        private boolean hasMore() {
            return way == WINDOWS ? opened > 0 || queueFirst < queueLast : machine.choices > 0;
        }

        private void beginPath() {
            machine.reset();
            int frame = machine.steps.beginQuery(query);
            roots[0] = machine.steps.queryNode(query, frame);
            for (int i = counts[FREE_NAMES]; i > 0; i--) {
                roots[i] = machine.path.memory[frame + code.c[freeCells[i - 1]]];
                machine.bring(roots[i]);
            }
            machine.bring(roots[0]);
        }

        /** Begins the first PATH, or the next ALTERNATIVE of the DECISION that is next. */
        private void beginNext() {
            if (!begun) {
                begun = true;
                beginPath();
                return;
            }
            if (way == WINDOWS) {
                goBackInWindows();
            } else {
                depth = machine.goBack();
                alternatives[depth] = machine.alternative();
            }
            depth++;
            counted = machine.path.labour;
        }

        private void goBackInWindows() {
            if (opened == 0) {
                windows[OPEN][0] = windows[NEXT][queueFirst];
                queueFirst++;
                opened = 1;
            }
            int decision = windows[OPEN][opened - 1];
            int alternative = windows[BEGUN][decision];
            windows[BEGUN][decision]++;
            if (alternative + 1 >= windows[COUNT][decision]) {
                opened--;
            }
            returnTo(decision);
            depth = windows[DEPTH][decision];
            alternatives[depth] = alternative;
            machine.goBackTo(depth, alternative);
        }

        /**
         * The PATH is one to a DECISION then. What it has not in common with the latest one is done anew: as it
         * was done before, it comes to the same DECISIONS, by the ALTERNATIVES that are told again.
         */
        private void returnTo(int decision) {
            int target = windows[DEPTH][decision];
            int common = target;
            int at = decision;
            while (common > 0 && (common >= machine.choices || windows[ON_PATH][common] != at)) {
                windows[ON_PATH][common] = at;
                alternatives[common - 1] = windows[ALTERNATIVE][at];
                at = windows[AHEAD][at];
                common--;
            }
            for (int i = common; i < target; i++) {
                machine.goBackTo(i, alternatives[i]);
                machine.run(GO);
                machine.addChoice(i + 1);
            }
        }

        /** True for a VALUE. */
        private boolean comeTo(int place) {
            counts[PLACES]++;
            total += machine.path.labour - counted;
            counted = machine.path.labour;
            switch (place) {
                case VALUE:
                    counts[VALUES]++;
                    keepValue();
                    return true;
                case DECIDES:
                    decide();
                    return false;
                case FAILS:
                    counts[FAILED]++;
                    return false;
                case STUCK:
                    counts[WAITING]++;
                    return false;
                default:
                    counts[LOST]++;
                    return false;
            }
        }

        private void keepValue() {
            valued = true;
            counts[LABOUR] = machine.path.labour;
            counts[STEPS] = machine.path.steps;
            counts[BINDS] = machine.path.binds;
            counts[DECISIONS] = depth;
            System.arraycopy(alternatives, 0, valueAlternatives, 0, depth);
            out.beginValue();
            for (int i = 0; i <= counts[FREE_NAMES]; i++) {
                out.keep(machine.path, roots[i], counts[VALUES]);
            }
        }

        private void decide() {
            if (way == BOUNDED && depth >= bound) {
                counts[CUT]++;
                return;
            }
            machine.addChoice(depth);
            if (way != WINDOWS) {
                return;
            }
            windows[AHEAD][decisions] = depth == 0 ? 0 : windows[ON_PATH][depth - 1];
            windows[ALTERNATIVE][decisions] = depth == 0 ? 0 : alternatives[depth - 1];
            windows[DEPTH][decisions] = depth;
            windows[COUNT][decisions] = machine.path.choices;
            windows[BEGUN][decisions] = 0;
            windows[ON_PATH][depth] = decisions;
            if ((depth + 1) % bound == 0) {
                windows[NEXT][queueLast] = decisions;
                queueLast++;
            } else {
                windows[OPEN][opened] = decisions;
                opened++;
            }
            decisions++;
        }
    }

    /** The OUT, and the latest VALUE of a SEARCH, as it is told in it. */
    private static final class Out {
        /** Each HEAD of a VALUE, and each part of one, costs LABOUR. */
        private static final int HEAD_ROOM = MOST_LABOUR + 2;
        private static final int ROOT_ROOM = 1025;
        private static final int BYTES = 8;
        // Of DATA: where its parts are, and, as long as it is being kept, its NODE; first its constructor.
        private static final int PARTS_AT = 16;
        private static final int NODE_AT = 32;
        private static final int PART_BITS = (1 << (NODE_AT - PARTS_AT)) - 1;
        // A level of the stack: how many of its parts are done, its form, and first its HEAD.
        private static final int DONE_AT = 14;
        private static final int DONE = 1 << DONE_AT;
        private static final int FORM_AT = 19;
        private static final int HEAD_BITS = DONE - 1;
        private static final int DONE_BITS = (1 << (FORM_AT - DONE_AT)) - 1;
        private static final int FORM_CON = 0;
        private static final int FORM_TUPLE = 1;
        private static final int FORM_LIST = 2;
        private static final int FORM_CELLS = 3;
        private static final int FORM_BRACKETS = 4;
        // What stands around a value that is printed.
        private static final int ALONE = 0;
        private static final int BEHIND_CON = 1;
        private static final int LEFT_OF_COLON = 2;

        private final Lexer lexer;
        private final Tables tables;
        private final long[] bytes = new long[OUT_ROOM / BYTES];
        int length;
        /** HEADS of the VALUE: INTS, DATA, VARS with their number. */
        private final int[] tag = new int[HEAD_ROOM];
        private final long[] held = new long[HEAD_ROOM];
        private int heads;
        private final int[] parts = new int[HEAD_ROOM];
        private int partsUsed;
        private int vars;
        private final int[] roots = new int[ROOT_ROOM];
        private int rootCount;
        private final int[] stack = new int[HEAD_ROOM];
        private int depth;
        private final byte[] digits = new byte[20];

        Out(Lexer lexer, Tables tables) {
            this.lexer = lexer;
            this.tables = tables;
        }

        boolean isFull() {
            return length >= OUT_ROOM;
        }

        void put(int b) {
            if (length < OUT_ROOM) {
                long before = length % BYTES == 0 ? 0 : bytes[length / BYTES];
                bytes[length / BYTES] = before | (b & 255L) << 8 * (length % BYTES);
                length++;
            }
        }

        int byteAt(int i) {
            return (int) (bytes[i / BYTES] >> 8 * (i % BYTES)) & 255;
        }

        void name(int name) {
            for (int i = lexer.start[name]; i < lexer.start[name + 1]; i++) {
                put(lexer.pool[i]);
            }
        }

        void number(long value) {
            if (value < 0) {
                put('-');
            }
            int count = 0;
            long rest = value;
            do {
                long digit = rest % 10;
                digits[count] = (byte) ('0' + (digit < 0 ? -digit : digit));
                count++;
                rest = rest / 10;
            } while (rest != 0 && count < digits.length);
            while (count > 0) {
                count--;
                put(digits[count]);
            }
        }

        void beginValue() {
            heads = 0;
            partsUsed = 0;
            vars = 0;
            rootCount = 0;
        }

        /** Keeps one more NODE of the VALUE of a number, in NORMAL FORM, and all in it, each HEAD once. */
        void keep(Path path, int n, int value) {
            depth = 0;
            int root = headFor(path, n, value);
            if (rootCount < ROOT_ROOM) {
                roots[rootCount] = root;
                rootCount++;
            }
            for (int turn = 0; turn < MOST_TURNS && depth > 0; turn++) {
                int head = stack[depth - 1] & HEAD_BITS;
                int i = stack[depth - 1] >> DONE_AT;
                int node = (int) (held[head] >> NODE_AT);
                if (i >= path.memory[path.q[node]]) {
                    depth--;
                    continue;
                }
                stack[depth - 1] += DONE;
                int part = headFor(path, path.part(node, i + 1), value);
                int place = partsOf(head) + i;
                if (place < HEAD_ROOM) {
                    parts[place] = part;
                }
            }
        }

        /** Where a NODE's HEAD is kept; a new place if it is none of those that are: DATA is on the stack then. */
        private int headFor(Path path, int n, int value) {
            int node = path.last(n);
            int known = path.noted(node, value);
            if (known >= 0) {
                return known;
            }
            if (heads >= HEAD_ROOM) {
                return 0;
            }
            int head = heads;
            heads++;
            path.note(node, value, head);
            tag[head] = path.tag[node];
            if (tag[head] == NODE_DATA) {
                held[head] = (long) node << NODE_AT | partsUsed << PARTS_AT | path.p[node];
                partsUsed = Math.min(partsUsed + path.memory[path.q[node]], HEAD_ROOM);
                push(head, FORM_CON);
            } else if (tag[head] == NODE_VAR) {
                vars++;
                held[head] = vars;
            } else {
                held[head] = path.valueOf(node);
            }
            return head;
        }

        private void push(int head, int form) {
            if (depth < HEAD_ROOM) {
                stack[depth] = form << FORM_AT | head;
                depth++;
            }
        }

        private int conOf(int head) {
            return (int) held[head] & PART_BITS;
        }

        private int partsOf(int head) {
            return (int) (held[head] >> PARTS_AT) & PART_BITS;
        }

        private int partOf(int head, int i) {
            int place = partsOf(head) + i;
            return place < HEAD_ROOM ? parts[place] : 0;
        }

        private boolean isCon(int head, int con) {
            return tag[head] == NODE_DATA && conOf(head) == con;
        }

        /** Prints the i-th of the NODES kept; DATA that is begun lies on a stack. */
        void value(int i) {
            if (i < 0 || i >= rootCount) {
                return;
            }
            depth = 0;
            open(roots[i], ALONE);
            for (int turn = 0; turn < MOST_TURNS && depth > 0 && !isFull(); turn++) {
                int head = stack[depth - 1] & HEAD_BITS;
                int done = stack[depth - 1] >> DONE_AT & DONE_BITS;
                int form = stack[depth - 1] >> FORM_AT;
                stack[depth - 1] += DONE;
                switch (form) {
                    case FORM_LIST:
                        goOnInList(head, done);
                        break;
                    case FORM_CELLS: case FORM_CELLS | FORM_BRACKETS:
                        goOnInCells(head, done, form);
                        break;
                    default:
                        goOnInData(head, done, form);
                        break;
                }
            }
        }

        private void open(int head, int around) {
            switch (tag[head]) {
                case NODE_INT:
                    printInt(held[head], around);
                    break;
                case NODE_VAR:
                    put('_');
                    number(held[head]);
                    break;
                case NODE_DATA:
                    openData(head, around);
                    break;
                default:
                    put('<');
                    put('f');
                    put('u');
                    put('n');
                    put('>');
                    break;
            }
        }

        private void printInt(long value, int around) {
            boolean brackets = value < 0 && around == BEHIND_CON;
            if (brackets) {
                put('(');
            }
            number(value);
            if (brackets) {
                put(')');
            }
        }

        private void openData(int head, int around) {
            int con = conOf(head);
            if (con == CON_NIL || con == CON_CONS) {
                openList(head, around);
                return;
            }
            boolean tuple = con == CON_PAIR || con == CON_TRIPLE;
            boolean brackets = tuple || (around == BEHIND_CON && tables.conTakes[con] > 0);
            if (brackets) {
                put('(');
            }
            if (!tuple) {
                name(tables.conName[con]);
            }
            push(head, (tuple ? FORM_TUPLE : FORM_CON) | (brackets ? FORM_BRACKETS : 0));
        }

        private void goOnInData(int head, int done, int form) {
            if (done == tables.conTakes[conOf(head)]) {
                close(form);
                return;
            }
            boolean tuple = (form & FORM_TUPLE) != 0;
            if (!tuple || done > 0) {
                put(tuple ? ',' : ' ');
            }
            open(partOf(head, done), tuple ? ALONE : BEHIND_CON);
        }

        private void close(int form) {
            depth--;
            if ((form & FORM_BRACKETS) != 0) {
                put(')');
            }
        }

        private void openList(int head, int around) {
            int end = head;
            for (int i = 0; i < HEAD_ROOM && isCon(end, CON_CONS); i++) {
                end = partOf(end, 1);
            }
            if (!isCon(end, CON_NIL)) {
                boolean brackets = around == BEHIND_CON || around == LEFT_OF_COLON;
                if (brackets) {
                    put('(');
                }
                push(head, FORM_CELLS | (brackets ? FORM_BRACKETS : 0));
                return;
            }
            put('[');
            if (end == head) {
                put(']');
            } else {
                push(head, FORM_LIST);
            }
        }

        private void goOnInList(int head, int done) {
            if (done == 0) {
                open(partOf(head, 0), ALONE);
                return;
            }
            depth--;
            int rest = partOf(head, 1);
            if (isCon(rest, CON_CONS)) {
                put(',');
                push(rest, FORM_LIST);
            } else {
                put(']');
            }
        }

        private void goOnInCells(int head, int done, int form) {
            if (done == 0) {
                open(partOf(head, 0), LEFT_OF_COLON);
                return;
            }
            if (done == 2) {
                close(form);
                return;
            }
            put(' ');
            put(':');
            put(' ');
            int rest = partOf(head, 1);
            if (isCon(rest, CON_CONS)) {
                depth--;
                push(rest, form);
            } else {
                open(rest, ALONE);
            }
        }
    }
}
