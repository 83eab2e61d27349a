import java.nio.charset.StandardCharsets;
import java.util.NoSuchElementException;

/** A ChoiceTongue with texts in place of numbers, for tests. */
final class Tongue {
    final ChoiceTongue tongue = new ChoiceTongue();

    /** Feeds a text, and ends the TAPE with it. */
    void write(String text) {
        byte[] bytes = text.getBytes(StandardCharsets.ISO_8859_1);
        int before = tongue.count(1);
        for (int i = 0; i < bytes.length; i += 20) {
            int[] numbers = new int[5];
            for (int j = 0; j < 20 && i + j < bytes.length; j++) {
                numbers[j / 4] |= (bytes[i + j] & 255) << (24 - 8 * (j % 4));
            }
            if (!tongue.feed(numbers[0], numbers[1], numbers[2], numbers[3], numbers[4])) {
                throw new IllegalStateException("the tape is full");
            }
        }
        if (!tongue.end(before + bytes.length)) {
            throw new IllegalStateException("the tape is too short");
        }
    }

    int module(String text) {
        write(text);
        return tongue.module();
    }

    int ask(int way, int bound, String text) {
        write(text);
        return tongue.ask(way, bound);
    }

    /** What show() puts into the OUT, or null. */
    String show(int what, int i) {
        int length = tongue.show(what, i);
        if (length < 0) {
            return null;
        }
        StringBuilder text = new StringBuilder();
        for (int k = 0; k < length; k++) {
            text.append((char) tongue.byteOf(k));
        }
        return text.toString();
    }

    /** The ALTERNATIVES of the latest VALUE. */
    String decisions() {
        StringBuilder text = new StringBuilder();
        for (int i = 0; i < tongue.count(11); i++) {
            text.append(' ').append(tongue.decision(i));
        }
        return text.toString();
    }

    boolean lacksByte(int i) {
        try {
            tongue.byteOf(i);
            return false;
        } catch (NoSuchElementException e) {
            return true;
        }
    }

    boolean lacksDecision(int i) {
        try {
            tongue.decision(i);
            return false;
        } catch (NoSuchElementException e) {
            return true;
        }
    }

    boolean refusesNext() {
        try {
            tongue.next();
            return false;
        } catch (IllegalStateException e) {
            return true;
        }
    }

    boolean refusesAsk(int way, int bound) {
        try {
            tongue.ask(way, bound);
            return false;
        } catch (IllegalArgumentException e) {
            return true;
        }
    }
}
