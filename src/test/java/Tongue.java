import java.nio.charset.StandardCharsets;
import java.util.NoSuchElementException;

/** A ChoiceTongue with texts in place of numbers, for tests. */
final class Tongue {
    final ChoiceTongue tongue = new ChoiceTongue();

    /** Feeds a text, and ends the TAPE with it. */
    void write(String text) {
        byte[] bytes = text.getBytes(StandardCharsets.ISO_8859_1);
        int before = tongue.count(1);
        for (int i = 0; i < bytes.length; i += 20) {
            int[] numbers = new int[5];
            for (int j = 0; j < 20 && i + j < bytes.length; j++) {
                numbers[j / 4] |= (bytes[i + j] & 255) << (24 - 8 * (j % 4));
            }
            if (!tongue.feed(numbers[0], numbers[1], numbers[2], numbers[3], numbers[4])) {
                throw new IllegalStateException("the tape is full");
            }
        }
        if (!tongue.end(before + bytes.length)) {
            throw new IllegalStateException("the tape is too short");
        }
    }

    int module(String text) {
        write(text);
        return tongue.module();
    }

    int ask(int way, int bound, String text) {
        write(text);
        return tongue.ask(way, bound);
    }

    /** What show() puts into the OUT, or null. */
    String show(int what, int i) {
        int length = tongue.show(what, i);
        if (length < 0) {
            return null;
        }
        StringBuilder text = new StringBuilder();
        for (int k = 0; k < length; k++) {
            text.append((char) tongue.byteOf(k));
        }
        return text.toString();
    }

    /** The ALTERNATIVES of the latest VALUE. */
    String decisions() {
        StringBuilder text = new StringBuilder();
        for (int i = 0; i < tongue.count(11); i++) {
            text.append(' ').append(tongue.decision(i));
        }
        return text.toString();
    }

    boolean lacksByte(int i) {
        try {
            tongue.byteOf(i);
            return false;
        } catch (NoSuchElementException e) {
            return true;
        }
    }

    boolean lacksDecision(int i) {
        try {
            tongue.decision(i);
            return false;
        } catch (NoSuchElementException e) {
            return true;
        }
    }

    boolean refusesNext() {
        try {
            tongue.next();
            return false;
        } catch (IllegalStateException e) {
            return true;
        }
    }

    boolean refusesAsk(int way, int bound) {
        try {
            tongue.ask(way, bound);
            return false;
        } catch (IllegalArgumentException e) {
            return true;
        }
    }

    /** What module() or ask() answered: good, or the kind and the place of the fault. */
    private String judged(int answer) {
        return answer == 0 ? "good" : tongue.fault() + " at " + (-1 - answer);
    }

    /** What a new object says of a module. */
    static String judgeModule(String text) {
        Tongue t = new Tongue();
        return t.judged(t.module(text));
    }

    /** What a new object says of a Query, behind a module that is good. */
    static String judgeQuery(String module, String text) {
        Tongue t = with(module);
        return t.judged(t.ask(0, 1, text));
    }

    /** A new object with a module that is good. */
    static Tongue with(String module) {
        Tongue t = new Tongue();
        String judged = t.judged(t.module(module));
        if (!judged.equals("good")) {
            throw new IllegalStateException(judged + " in " + module);
        }
        return t;
    }

    /** Asks a Query that is good. */
    void askGood(int way, int bound, String text) {
        String judged = judged(ask(way, bound, text));
        if (!judged.equals("good")) {
            throw new IllegalStateException(judged + " in " + text);
        }
    }

    /** All VALUES, each with what the names declared free are for it; behind the last one how it ends. */
    String all(int way, int bound, String text) {
        askGood(way, bound, text);
        StringBuilder all = new StringBuilder();
        int answer = tongue.next();
        for (; answer == 1; answer = tongue.next()) {
            all.append(show(5, 0));
            for (int i = 0; i < tongue.count(13); i++) {
                all.append(i == 0 ? " " : ",").append(show(4, i)).append('=').append(show(6, i));
            }
            all.append("; ");
        }
        return all.append(answer == 0 ? "end" : "spent").toString();
    }

    String all(String text) {
        return all(0, 1, text);
    }

    /** The first VALUE, or how the SEARCH ends without one. */
    String first(String text) {
        askGood(0, 1, text);
        int answer = tongue.next();
        return answer == 1 ? show(5, 0) : answer == 0 ? places() : "spent";
    }

    /** The PLACES that have been come to, by what they are. */
    String places() {
        String[] names = {"values", "failed", "waiting", "given up", "cut"};
        StringBuilder text = new StringBuilder().append(tongue.count(3)).append(" places");
        for (int i = 0; i < names.length; i++) {
            if (tongue.count(4 + i) > 0) {
                text.append(", ").append(tongue.count(4 + i)).append(' ').append(names[i]);
            }
        }
        return text.toString();
    }

    /** LABOUR, STEPS, DECISIONS of the latest VALUE, and how often a VAR was BOUND. */
    String costs() {
        return tongue.count(9) + " " + tongue.count(10) + " " + tongue.count(11) + " " + tongue.count(12);
    }

    /** The first VALUE and what it cost. */
    String cost(String text) {
        return first(text) + " for " + costs();
    }

    /** All that can be asked without changing anything. */
    String state() {
        StringBuilder text = new StringBuilder();
        for (int what = 0; what <= 13; what++) {
            text.append(tongue.count(what)).append(' ');
        }
        text.append(tongue.fault()).append(decisions()).append(" out ");
        for (int i = 0; i < tongue.count(2); i++) {
            text.append((char) tongue.byteOf(i));
        }
        for (int f = 0; f < tongue.count(0); f++) {
            for (int what = 0; what <= 5; what++) {
                text.append(' ').append(tongue.fact(f, what));
            }
        }
        return text.toString();
    }
}
