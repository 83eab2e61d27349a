/** Reads a module, asks queries in it, and prints what comes out. */
public final class Example {
    private final ChoiceTongue tongue = new ChoiceTongue();

    public static void main(String[] arguments) {
        Example example = new Example();
        example.module("data Nat = Z | S Nat\nadd :: Nat -> Nat -> Nat\nadd Z y = y\nadd (S x) y = S (add x y)\n"
                + "coin :: Int\ncoin = 1\ncoin = 2\n");
        example.ask("add x y =:= S (S Z) &> (x, y) where { x, y free }");
        example.ask("coin + coin");
        example.ask("set coin");
        example.ask("add Z 3");
        example.ask("add Z y");
    }

    private void module(String text) {
        feed(text);
        System.out.println("module() answers " + tongue.module());
        System.out.println("add has the tree " + show(2, 28));
    }

    private void ask(String text) {
        feed(text);
        int answer = tongue.ask(0, 1);
        System.out.println(text);
        if (answer < 0) {
            System.out.println("  has a fault of kind " + tongue.fault() + " at byte " + (-1 - answer));
            return;
        }
        System.out.println("  has the type " + show(3, 0));
        while (tongue.next() == 1) {
            System.out.println("  has the value " + show(5, 0) + " for a labour of " + tongue.count(9));
        }
    }

    /** Twenty bytes a call, four in each number; then how many of them count. */
    private void feed(String text) {
        for (int i = 0; i < text.length(); i += 20) {
            tongue.feed(four(text, i), four(text, i + 4), four(text, i + 8), four(text, i + 12), four(text, i + 16));
        }
        tongue.end(text.length());
    }

    private static int four(String text, int from) {
        int bytes = 0;
        for (int i = from; i < from + 4; i++) {
            bytes = bytes << 8 | (i < text.length() ? text.charAt(i) : ' ');
        }
        return bytes;
    }

    private String show(int what, int i) {
        int length = tongue.show(what, i);
        StringBuilder text = new StringBuilder();
        for (int k = 0; k < length; k++) {
            text.append((char) tongue.byteOf(k));
        }
        return text.toString();
    }
}
