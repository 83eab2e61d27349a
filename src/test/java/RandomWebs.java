import java.util.ArrayList;
import java.util.List;

/** Queries that are webs of NAMES: much is shared, waits for other NAMES, and is given up in CAPSULES. */
final class RandomWebs extends RandomTexts {
    private static final int BOOL = 0;
    private static final int INT = 1;
    private static final int LIST = 2;
    private static final int NAT = 3;
    /** What a NAME can be, with NAMES for b and c (Bool), i and j (Int), l (list), m and n (Nat). */
    private static final String[][] EXPRS = {
        {"b & c", "b & c", "b & c", "b & c", "b & c", "b && c", "i =:= j", "i == j", "b =:= c", "span i 0 2", "span i 1 3",
            "label [i,j]", "differ [i,j]", "equalTo [1,2] [i,j] 3", "atMost [1,1] [i,j] i", "isz i", "b ? c", "w3 b", "w6 b c",
            "w7 i j", "w7 b c", "w9 i", "set w3 b == [True]", "hd (set w6 b c)", "hd (set w9 i)", "evn m",
            "case b of {True -> c; False -> b}", "fcase b of {True -> c; False -> True}", "m =:= n", "l =:= [i,j]",
            "set w7 i j == [True]", "hd (set w8 i j)", "hd (set w8 b c)", "sp i"},
        {"i + j", "two i", "f2 i j", "hd l", "hd (set w1 i b)", "hd (set w2 i b)", "len (set w2 i b)", "w1 i b", "b &> i",
            "if b then i else j", "hd (set eqs i j)", "eqs i j", "bi b i"},
        {"[i,j]", "i : l", "set w2 i b", "hd (set w4 l)", "w4 l", "fcase w5 i of {(1, t) -> t; (t, _) -> [t]}",
            "case hd (set w5 i) of {(t, u) -> t : u}"},
        {"S m", "add m n", "hd (set add m n)"}};

    private final List<List<String>> names = List.of(new ArrayList<>(), new ArrayList<>(), new ArrayList<>(), new ArrayList<>());

    RandomWebs(long seed) {
        super(seed);
        names.get(BOOL).addAll(List.of("p", "q", "s", "s"));
        names.get(INT).addAll(List.of("x", "y", "z", "1"));
        names.get(LIST).add("xs");
        names.get(NAT).add("o");
    }

    /** The latest ones are likelier. */
    private String name(int type) {
        List<String> all = names.get(type);
        return all.get(upTo(2) == 0 ? all.size() - 1 - upTo(Math.min(3, all.size())) : upTo(all.size()));
    }

    private String named(String expr) {
        StringBuilder text = new StringBuilder();
        for (String word : expr.split("\\b")) {
            switch (word) {
                case "b": case "c":
                    text.append(name(BOOL));
                    break;
                case "i": case "j":
                    text.append(name(INT));
                    break;
                case "l":
                    text.append(name(LIST));
                    break;
                case "m": case "n":
                    text.append(name(NAT));
                    break;
                default:
                    text.append(word);
            }
        }
        return text.toString();
    }

    String web() {
        StringBuilder block = new StringBuilder(" where {p,q,s free;x,y,z free;xs free;o free");
        int count = 3 + upTo(14);
        for (int i = 0; i < count; i++) {
            int sort = upTo(14);
            int type = sort < 8 ? BOOL : sort < 11 ? INT : sort < 13 ? LIST : NAT;
            block.append("; n").append(i).append(" = ").append(named(one(EXPRS[type])));
            names.get(type).add("n" + i);
            names.get(type).add("n" + i);
        }
        StringBuilder text = new StringBuilder("(");
        for (int i = 1 + upTo(5); i > 0; i--) {
            text.append(named(one("b", "b", "b", "(i =:= 1)", "(b =:= True)"))).append(i > 1 ? " & " : ")");
        }
        return text + one("", "", " &> " + name(INT), " &> " + name(LIST), " &> " + name(NAT)) + block + "}";
    }
}
