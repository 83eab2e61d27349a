import java.util.ArrayList;
import java.util.List;

/**
 * Queries with many & and CAPSULES in one another, which WAIT for each other's VARS and are begun anew, with
 * DECISIONS at the bottom: what lies around a DECISION has to be as it was when it is gone back to.
 */
final class RandomDeep extends RandomTexts {
    static final String MODULE = """
            hd::[a]->a
            hd(x:_)=x
            i::Bool->Bool
            i x=x
            t::Bool->Bool
            t True=True
            d::Int->Int->Bool
            d n y=e (n+0) y
            e::Int->Int->Bool
            e 1 0=True
            e 1 1=True
            e 1 2=False
            b::Int->Int->Int->Bool
            b x y k=if x>=0 then y=:=k else False
            wt::Int->Int->Bool
            wt 1 1=True
            wt 1 0=False
            wt 2 _=True
            w::Int->Int->Bool
            w x y=wt (x+0) (y+0)
            g::[Int]->[Int]->Bool
            g [] []=True
            g (x:xs) (y:ys)=x=:=(1?1?2)&(y>=0&>g xs ys)
            k::[Int]->[Int]->Bool
            k [] []=True
            k (x:xs) (y:ys)=x>=0&>y=:=0&k xs ys
            ws::[Int]->Bool
            ws (x:xs)=if x>=0 then ws xs else False
            ws []=True
            s2::Bool->Bool->Bool
            s2 a b=a&b
            s3::Bool->Int->Bool->Bool
            s3 True _ _=True
            s3 a x b=x>=0&>(a&b)
            f3::Int->Bool->Bool
            f3 x b=fcase x+0 of{1->b;0->True;2->b}
            data P=P Bool Bool Bool
            """;
    /** What a NAME can be: X is one of the INTS, N the latest NAME, A one of the others. */
    private static final String[] EXPRS = {"d X X", "b X X 0", "b X X 1", "w X X", "g [X,X] [X,X]", "k [X,X] [X,X]", "hd(set i N)",
        "hd(set s2 N A)", "hd(set s2 A N)", "hd(set s3 A X N)", "hd(set w X X)", "hd(set f3 X N)", "t N", "f3 X N",
        "P A N A=:=P A N A", "hd(set ws xs)", "(A?N)", "X=:=X", "span X 0 1", "label[X,X]"};
    private static final String[] ANDS = {"N&A", "A&N", "u&u&u&u&N&v", "(N&u)&v&A", "N&N"};

    private final List<String> names = new ArrayList<>(List.of("u", "u", "v"));
    private int ints;

    RandomDeep(long seed) {
        super(seed);
    }

    private String number() {
        return "x" + upTo(ints);
    }

    private String name() {
        return upTo(3) == 0 ? names.get(upTo(names.size())) : late(4);
    }

    private String late(int count) {
        return names.get(names.size() - 1 - upTo(Math.min(count, names.size())));
    }

    private String named(String expr) {
        StringBuilder text = new StringBuilder();
        for (char c : expr.toCharArray()) {
            text.append(c == 'X' ? number() : c == 'N' ? late(1) : c == 'A' ? name() : "" + c);
        }
        return text.toString();
    }

    private String numbers() {
        StringBuilder text = new StringBuilder("[" + number());
        for (int i = 1 + upTo(5); i > 0; i--) {
            text.append(',').append(number());
        }
        return text + "]";
    }

    String deep() {
        ints = 4 + upTo(10);
        StringBuilder block = new StringBuilder(" where{u,v");
        for (int i = 0; i < ints; i++) {
            block.append(",x").append(i);
        }
        boolean inTurn = upTo(2) == 0;
        block.append(" free;xs=").append(inTurn ? "[x0,x1,x2]" : numbers()).append(";ys=").append(inTurn ? "[x2,x0,x3]" : numbers());
        for (int i = 5 + upTo(60); i > 0; i--) {
            block.append(";n").append(i).append('=').append(named(upTo(3) > 0 ? one(EXPRS) : one(ANDS)));
            names.add("n" + i);
        }
        return asked() + block.toString() + "}";
    }

    /** Often with all that BINDS xs and ys in turn, so that what WAITS goes on. */
    private String asked() {
        String a = late(1);
        String b = late(3);
        if (upTo(2) == 0) {
            return one("((" + a + "&k xs ys)&g xs ys)", "((g xs ys&" + a + ")&k xs ys&" + b + ")", "(k xs ys&" + a + "&" + b + "&g xs ys)",
                    "((" + a + "&" + b + ")&(g xs ys&k xs ys))", "((hd(set i(g xs ys))&" + a + ")&(k xs ys&" + b + ")&g xs ys)",
                    "((k xs ys&(" + a + "&u))&(g xs ys&" + b + ")&(u=:=True))");
        }
        StringBuilder text = new StringBuilder("(");
        for (int i = 1 + upTo(4); i > 0; i--) {
            text.append(one("k xs ys", "g xs ys", "u=:=True", "x0=:=1", late(3), late(3), late(3), late(3))).append(i > 1 ? "&" : ")");
        }
        return text.toString();
    }
}
