import java.util.ArrayList;
import java.util.List;
import java.util.Set;

/** A token of a text. MARKS and WORDS are their own sort; the others are NAME, BIG, INT, WILD, OPERATOR, END. */
final class ModelToken {
    private static final Set<String> WORDS = Set.of("case", "data", "else", "fcase", "free", "if", "in", "infix",
            "infixl", "infixr", "let", "of", "set", "then", "where");
    private static final Set<String> MARKS = Set.of("=", "|", "->", "::", "\\", "@");
    private static final String SIGNS = "!#$%&*+./:<=>?@\\^|-~";

    final String sort;
    final String text;
    final int place;

    private ModelToken(String sort, String text, int place) {
        this.sort = sort;
        this.text = text;
        this.place = place;
    }

    boolean is(String wanted) {
        return sort.equals(wanted);
    }

    boolean isColon() {
        return is("OPERATOR") && text.equals(":");
    }

    int number() {
        return Integer.parseInt(text);
    }

    /** The tokens of a text, with their ENDS. */
    static List<ModelToken> read(String text) {
        List<ModelToken> tokens = new ArrayList<>();
        int at = 0;
        while (at < text.length()) {
            char c = text.charAt(at);
            int to = behind(text, at);
            boolean note = isSign(c) && text.substring(at, to).matches("--+");
            if (note) {
                at = text.indexOf('\n', at) < 0 ? text.length() : text.indexOf('\n', at);
                continue;
            }
            if (c != ' ' && c != '\n') {
                if (!tokens.isEmpty() && text.charAt(at - 1) == '\n') {
                    tokens.add(new ModelToken("END", "", at));
                }
                tokens.add(token(text, at, to));
            }
            at = to;
        }
        tokens.add(new ModelToken("END", "", text.length()));
        return tokens;
    }

    /** Where the row of signs, of digits, or the name that begins here ends. */
    private static int behind(String text, int from) {
        char c = text.charAt(from);
        int to = from + 1;
        if (isSign(c)) {
            while (to < text.length() && isSign(text.charAt(to))) {
                to++;
            }
        } else if (isDigit(c)) {
            while (to < text.length() && to < from + 9 && isDigit(text.charAt(to))) {
                to++;
            }
        } else if (isLetter(c) || c == '_') {
            while (to < text.length() && isBehindName(text.charAt(to))) {
                to++;
            }
        }
        return to;
    }

    private static ModelToken token(String text, int from, int to) {
        char c = text.charAt(from);
        String part = text.substring(from, to);
        if (isSign(c)) {
            return new ModelToken(MARKS.contains(part) ? part : "OPERATOR", part, from);
        }
        if (isDigit(c)) {
            if (to < text.length() && isBehindName(text.charAt(to))) {
                throw new ModelFault(1, to);
            }
            return new ModelToken("INT", part, from);
        }
        if (isLetter(c) || c == '_') {
            boolean big = c >= 'A' && c <= 'Z';
            String sort = big ? "BIG" : part.equals("_") ? "WILD" : WORDS.contains(part) ? part : "NAME";
            return new ModelToken(sort, part, from);
        }
        if ("()[]{},;`".indexOf(c) < 0) {
            throw new ModelFault(1, from);
        }
        return new ModelToken(part, part, from);
    }

    private static boolean isSign(char c) {
        return SIGNS.indexOf(c) >= 0;
    }

    private static boolean isDigit(char c) {
        return c >= '0' && c <= '9';
    }

    private static boolean isLetter(char c) {
        return (c >= 'a' && c <= 'z') || (c >= 'A' && c <= 'Z');
    }

    private static boolean isBehindName(char c) {
        return isLetter(c) || isDigit(c) || c == '_' || c == '\'';
    }
}
