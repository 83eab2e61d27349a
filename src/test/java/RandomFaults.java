import java.util.ArrayList;
import java.util.List;

/** Texts in which some tokens are others than they were. */
final class RandomFaults extends RandomTexts {
    private static final String MORE = """
            infixl 4 `foo`, +++
            infix 3 ~~
            infixr 5 ^^
            (+++) :: a -> a -> [a]
            x +++ y = [x, y]
            foo :: (a, b) -> (b -> c) -> c
            (_, y) `foo` f = f y
            (~~) :: Int -> Int -> Bool
            x ~~ y | x < y = True | z = z == False where {z = y ~~ x; w, v free}
            (^^) :: [a] -> (a, a, a) -> [a]
            (x : _) ^^ (y, z, _) = [x, y, z]
            xs@[] ^^ (_, _, z) = z : xs
            data T a b = A a (T b a) | B (a -> b) [T a a]
            tt :: T a b -> (T b a -> c) -> Int
            tt (A _ t) g = 1
            tt t@(B h xs) g = case xs of {[] -> 0; (A x _) : _ -> 1; _ : ys -> let {k = \\u v -> tt u g; n free} in n}
            """;
    private static final String[] OTHERS = ("( ) [ ] { } , ; ` = | -> :: \\ @ : _ x y zs f True False Int Nat S Z [] () 0 1 9 10 "
            + "123456789 + * - -- --- == $ . & &> ? case of let in where if then else fcase free set data infix infixl infixr a b "
            + "u0 u1 map not failed label span # ' \" ~ 1x 1234567890 \n \t \u0000 \u007f \u0080 \u00ff").split(" ");

    RandomFaults(long seed) {
        super(seed);
    }

    String faultyModule() {
        return change(upTo(2) == 0 ? MODULE + functions(1 + upTo(3)) : MORE);
    }

    String faultyQuery() {
        return change(query(1 + upTo(4)));
    }

    /** Good or not. */
    String anyModule() {
        switch (upTo(6)) {
            case 0: case 1: return MODULE + functions(upTo(3));
            case 2: return MORE;
            case 3: return functions(upTo(3));
            default: return faultyModule();
        }
    }

    /** Good or not. */
    String anyQuery() {
        return upTo(3) == 0 ? faultyQuery() : query(1 + upTo(4));
    }

    String change(String text) {
        List<String> parts = parts(text);
        for (int i = upTo(4) == 0 ? 2 : 1; i > 0; i--) {
            changeOne(parts);
        }
        return String.join("", parts);
    }

    /** Rows of signs, names and numbers, and all other bytes. */
    private static List<String> parts(String text) {
        List<String> parts = new ArrayList<>();
        for (String part : text.split("(?<=[^A-Za-z0-9_'])(?=[A-Za-z0-9_'])|(?<=[A-Za-z0-9_'])(?=[^A-Za-z0-9_'])|(?<=[ \n()\\[\\]{},;`])|(?=[ \n()\\[\\]{},;`])")) {
            parts.add(part);
        }
        return parts;
    }

    private void changeOne(List<String> parts) {
        int at = upTo(parts.size());
        int from = upTo(parts.size());
        switch (upTo(8)) {
            case 0:
                if (parts.size() > 1) {
                    parts.remove(at);
                }
                break;
            case 1:
                parts.add(at, parts.get(from));
                break;
            case 2:
                parts.set(at, parts.get(from));
                break;
            case 3:
                parts.add(at, other());
                break;
            case 4:
                parts.set(at, other());
                break;
            case 5:
                parts.addAll(at, List.copyOf(parts.subList(from, Math.min(parts.size(), from + 1 + upTo(6)))));
                break;
            default:
                changeAlike(parts);
        }
    }

    private String other() {
        return upTo(2) == 0 ? one(OTHERS) : " " + one(OTHERS) + " ";
    }

    /** One becomes another one that begins like it: a name another name, and so on. */
    private void changeAlike(List<String> parts) {
        for (int i = 0; i < 60; i++) {
            int at = upTo(parts.size());
            String other = parts.get(upTo(parts.size()));
            if (!other.equals(parts.get(at)) && sort(other) == sort(parts.get(at)) && sort(other) > 0) {
                parts.set(at, other);
                return;
            }
        }
    }

    private static int sort(String part) {
        return part.matches("[a-z_].*") ? 1 : part.matches("[A-Z].*") ? 2 : part.matches("[0-9].*") ? 3 : part.matches("[ \n]*") ? 0 : 4;
    }
}
