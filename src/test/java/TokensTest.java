/** Part I, TEXTS: which bytes can stand where, how long tokens are, where an END is. */
public final class TokensTest {
    private static final String SIGNS = "!#$%&*+./:<=>?@\\^|-~";
    private static final String WORDS = "case data else fcase free if in infix infixl infixr let of set then where";
    private static final Checks CHECKS = new Checks();
    private static final Texts TEXTS = new Texts(CHECKS);

    public static void main(String[] args) {
        eachByteAlone();
        eachByteBehind();
        eachByteBehindASign();
        blanks();
        notes();
        names();
        words();
        ints();
        marks();
        ends();
        emptyTexts();
        CHECKS.end();
    }

    private static boolean isLetter(int b) {
        return (b >= 'a' && b <= 'z') || (b >= 'A' && b <= 'Z');
    }

    private static boolean isDigit(int b) {
        return b >= '0' && b <= '9';
    }

    private static void query(String text, String due) {
        CHECKS.same("query " + text, Tongue.judgeQuery("", text), due);
    }

    /** What a text of this byte alone is as a Query. */
    private static String alone(int b) {
        if (isDigit(b)) {
            return "good";
        }
        if (isLetter(b)) {
            return "3 at 0";
        }
        if (b == ' ' || b == '\n' || b == '(' || b == '[' || b == '\\') {
            return "2 at 1";
        }
        return b == '_' || SIGNS.indexOf(b) >= 0 || ")]{},;`".indexOf(b) >= 0 ? "2 at 0" : "1 at 0";
    }

    private static void eachByteAlone() {
        for (int b = 0; b < 256; b++) {
            query("" + (char) b, alone(b));
        }
    }

    /** Directly behind an INT, a NAME, a BIG and a bracket. */
    private static void eachByteBehind() {
        for (int b = 0; b < 256; b++) {
            boolean inName = isLetter(b) || isDigit(b) || b == '_' || b == '\'';
            boolean ends = b == ' ' || b == '\n';
            boolean goesOn = b == '(' || b == '[' || b == '`' || (SIGNS.indexOf(b) >= 0 && "=|\\@".indexOf(b) < 0);
            boolean stands = SIGNS.indexOf(b) >= 0 || "()[]{},;`".indexOf(b) >= 0;
            for (String ahead : new String[] {"1", "not", "True", "()"}) {
                int place = ahead.length();
                String due = ends ? "good" : goesOn ? "2 at " + (place + 1) : stands ? "2 at " + place : "1 at " + place;
                if (inName && ahead.equals("1")) {
                    due = isDigit(b) ? "good" : "1 at 1";
                } else if (inName && !ahead.equals("()")) {
                    due = "3 at 0";
                } else if (inName) {
                    // An Atom, but for ' and for WILD; judged by its name, or () by its type.
                    due = b == '\'' ? "1 at 2" : b == '_' ? "2 at 2" : isDigit(b) ? "6 at 0" : "3 at 2";
                }
                query(ahead + (char) b, due);
            }
        }
    }

    /** A row of SIGN bytes is one token as far as it goes. */
    private static void eachByteBehindASign() {
        for (int b = 0; b < 256; b++) {
            String due = SIGNS.indexOf(b) >= 0 ? "3 at 1" : b == ' ' ? "6 at 3" : b == '\n' ? "2 at 3" : alone(b).startsWith("1") ? "1 at 2" : "";
            if (b == '+') {
                // ++ is known, and wants lists.
                due = "6 at 0";
            }
            if (!due.isEmpty()) {
                query("1+" + (char) b + "()", due);
            }
        }
    }

    private static void blanks() {
        TEXTS.goodQuery(" \n 1 \n ");
        TEXTS.goodQuery("1 + \n 2");
        for (int b : new int[] {9, 10, 11, 12, 13, 31, 32, 127, 160}) {
            query("1" + (char) b + "+2", b == 10 ? "2 at 2" : b == 32 ? "good" : "1 at 1");
        }
        TEXTS.all("1\n +\n 2", "3; end");
    }

    private static void notes() {
        TEXTS.faultOfQuery(2, "1 -" + Texts.AT);
        TEXTS.goodQuery("1 --");
        TEXTS.goodQuery("1 ---");
        TEXTS.goodQuery("1--");
        TEXTS.goodQuery("1--2)");
        TEXTS.faultOfQuery(3, "1 " + Texts.AT + "--> 2");
        TEXTS.faultOfQuery(3, "1 " + Texts.AT + "|-- 2");
        TEXTS.faultOfQuery(3, "1 " + Texts.AT + "--| 2");
        TEXTS.faultOfQuery(3, "1" + Texts.AT + "+--2");
        TEXTS.faultOfQuery(2, "1 - " + Texts.AT + "- 2");
        TEXTS.all("3 - 2", "1; end");
        TEXTS.all("3 -- 2", "3; end");
        TEXTS.all("3 -- 2\n -2", "1; end");
        TEXTS.all("3 -- \u0000\t\u00ff'\"1a\n -2", "1; end");
        TEXTS.faultOfQuery(1, "3 -- \u0000\n " + Texts.AT + "\u0000");
        TEXTS.goodQuery("-- a note ahead\n1");
        TEXTS.goodQuery("--\n--\n1 --\n--");
        TEXTS.goodModule("f::Int --one\n--two\nf=1--three");
        TEXTS.goodModule("f::Int--one");
        TEXTS.faultOfModule(2, "f:: --Int" + Texts.AT);
    }

    private static void names() {
        for (String name : new String[] {"a", "z", "_a", "__", "_0", "_'", "a'", "z''", "a_", "a0", "aZ", "x9_'Z", "dataa", "cases"}) {
            TEXTS.goodQuery("\\" + name + "->" + name);
        }
        TEXTS.goodQuery("\\_->1");
        TEXTS.faultOfQuery(2, "\\_->" + Texts.AT + "_");
        TEXTS.faultOfQuery(2, "\\" + Texts.AT + "A->1");
        TEXTS.faultOfQuery(2, "\\" + Texts.AT + "0->1");
        TEXTS.faultOfQuery(1, "\\" + Texts.AT + "'->1");
        TEXTS.goodModule("data A=A|Z|A'|A0|A_|Aa|AZ|Case|Data");
        TEXTS.faultOfModule(2, "data A=" + Texts.AT + "a");
        TEXTS.faultOfModule(2, "data " + Texts.AT + "_A=A");
        // The whole name counts, and which letters are large.
        TEXTS.faultOfQuery(3, "\\ab->" + Texts.AT + "a");
        TEXTS.faultOfQuery(3, "\\ab->" + Texts.AT + "aB");
        TEXTS.faultOfQuery(3, "\\ab->" + Texts.AT + "abc");
        String longest = "n".repeat(1000);
        TEXTS.goodQuery("\\" + longest + " " + longest + "'->" + longest);
        TEXTS.faultOfQuery(3, "\\" + longest + "->" + Texts.AT + longest + "n");
    }

    private static void words() {
        for (String word : WORDS.split(" ")) {
            TEXTS.faultOfQuery(2, "\\" + Texts.AT + word + "->1");
            for (String name : new String[] {word + "'", word + "1", word + "_", "_" + word, word + "x", word.substring(0, 1) + "q" + word.substring(1)}) {
                TEXTS.goodQuery("\\" + name + "->" + name);
            }
        }
        for (String name : new String[] {"cas", "dat", "els", "fcas", "fre", "i", "infi", "infixx", "le", "o", "se", "the", "wher"}) {
            TEXTS.goodQuery("\\" + name + "->" + name);
        }
    }

    private static void ints() {
        TEXTS.all("0", "0; end");
        TEXTS.all("12345678", "12345678; end");
        TEXTS.all("999999999", "999999999; end");
        TEXTS.all("000000007", "7; end");
        TEXTS.faultOfQuery(1, "999999999" + Texts.AT + "0");
        TEXTS.faultOfQuery(1, "000000000" + Texts.AT + "7");
        TEXTS.faultOfQuery(1, "123456789" + Texts.AT + "a");
        TEXTS.faultOfQuery(1, "1" + Texts.AT + "e5");
        TEXTS.faultOfQuery(1, "1" + Texts.AT + "_");
        TEXTS.faultOfQuery(1, "1" + Texts.AT + "'");
        TEXTS.faultOfQuery(1, "1" + Texts.AT + "Z");
        TEXTS.all("999999999+1", "1000000000; end");
        TEXTS.all("[1,2]", "[1,2]; end");
        TEXTS.goodQuery("\\x9->x9");
    }

    /** = | -> :: \ and @ are MARKS if they stand alone; so is no row that has them in it. */
    private static void marks() {
        for (String mark : new String[] {"=", "|", "->", "::", "\\", "@"}) {
            TEXTS.faultOfQuery(2, "1" + Texts.AT + mark + "2");
            TEXTS.faultOfModule(2, "(" + Texts.AT + mark + ")::Int");
            TEXTS.faultOfQuery(3, "1" + Texts.AT + mark + "+ 2");
            TEXTS.faultOfQuery(3, "1" + Texts.AT + "+" + mark + " 2");
            TEXTS.goodModule("(" + mark + "+)::Int");
        }
        for (String row : new String[] {"==>", "||||", "->>", ":::", "\\\\", "@@", "=|", "|=", "<-", "=:", ":=", "-->", "~~"}) {
            TEXTS.goodModule("(" + row + ")::Int->Int->Int\nx" + row + "y=x");
        }
        for (int i = 0; i < SIGNS.length(); i++) {
            String sign = SIGNS.substring(i, i + 1);
            String row = sign + "!";
            TEXTS.goodModule("(" + row + ")::Int");
            if ("=|\\@:".contains(sign)) {
                TEXTS.faultOfModule(2, "(" + Texts.AT + sign + ")::Int");
            }
        }
        TEXTS.all("1:[]", "[1]; end");
        // Each bracket is a MARK of its own.
        TEXTS.all("([])", "[]; end");
        TEXTS.all("[[],[()==()]]", "[[],[True]]; end");
    }

    /** A token in the first place of its line has an END ahead of it, at its place, but the first of all. */
    private static void ends() {
        TEXTS.goodQuery("1");
        TEXTS.goodQuery("\n1");
        TEXTS.goodQuery("\n 1");
        TEXTS.faultOfQuery(2, "1\n" + Texts.AT + "+2");
        TEXTS.goodQuery("1\n +2");
        TEXTS.faultOfQuery(2, "1+\n" + Texts.AT + "2");
        TEXTS.faultOfQuery(2, "1\n\n\n" + Texts.AT + "2");
        TEXTS.faultOfQuery(2, "1+" + Texts.AT);
        TEXTS.faultOfQuery(2, "1+ \n  \n" + Texts.AT);
        TEXTS.faultOfQuery(2, "1+--\n" + Texts.AT);
        TEXTS.goodModule("f::Int\nf=1");
        TEXTS.goodModule(" f::Int\nf=1");
        TEXTS.goodModule("f::Int\nf\n =\n 1\n");
        TEXTS.faultOfModule(2, "f::Int\n f" + Texts.AT + "=1");
        TEXTS.faultOfModule(2, "f\n" + Texts.AT + "::Int");
        TEXTS.faultOfModule(2, "f::Int\nf=(1\n" + Texts.AT + ")");
        TEXTS.faultOfModule(2, "f::" + Texts.AT);
        TEXTS.faultOfModule(2, "f::\n" + Texts.AT + "f=1");
        TEXTS.faultOfModule(2, "f:: \n" + Texts.AT);
    }

    private static void emptyTexts() {
        for (String text : new String[] {"", " ", "\n", " \n\n ", "--", "-- x", "--\n--\n "}) {
            TEXTS.goodModule(text);
            TEXTS.faultOfQuery(2, text + Texts.AT);
        }
    }
}
