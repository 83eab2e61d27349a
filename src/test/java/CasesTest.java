import java.io.IOException;
import java.nio.charset.StandardCharsets;
import java.nio.file.Files;
import java.nio.file.Path;
import java.util.ArrayList;
import java.util.List;

/**
 * Runs src/test/cases/NAME.txt against NAME.due. A line of a case is one of
 * X a new object; M text (module); Q way bound text (ask); N (next); T (all functions);
 * A (all VALUES, then the counts); B (the fourth VALUE, then the counts at the end).
 * In texts a newline is written \n.
 */
public final class CasesTest {
    private static Tongue tongue = new Tongue();
    private static int wrong = 0;
    private static int right = 0;

    public static void main(String[] args) throws IOException {
        for (String name : List.of("faults", "trees", "values", "waits")) {
            check(name);
        }
        System.out.println(right + " lines are as due, " + wrong + " are not");
        if (wrong != 0) {
            System.exit(1);
        }
    }

    private static void check(String name) throws IOException {
        List<String> cases = lines(name + ".txt");
        List<String> due = lines(name + ".due");
        tongue = new Tongue();
        int at = 0;
        for (String line : cases) {
            if (line.isEmpty() || line.charAt(0) == '#') {
                continue;
            }
            for (String got : run(line)) {
                String want = at < due.size() ? due.get(at) : "nothing";
                at++;
                if (got.equals(want)) {
                    right++;
                } else {
                    wrong++;
                    System.out.println(name + ": " + line + "\n  answered " + got + "\n  due is   " + want);
                }
            }
        }
        if (at != due.size()) {
            wrong++;
            System.out.println(name + ": " + at + " answers, due are " + due.size());
        }
    }

    private static List<String> lines(String name) throws IOException {
        return Files.readAllLines(Path.of("src/test/cases", name), StandardCharsets.ISO_8859_1);
    }

    private static List<String> run(String line) {
        String rest = line.length() > 2 ? line.substring(2).replace("\\n", "\n") : "";
        List<String> answers = new ArrayList<>();
        switch (line.charAt(0)) {
            case 'X':
                tongue = new Tongue();
                answers.add("X");
                break;
            case 'M':
                fresh();
                answers.add("M " + told(tongue.module(rest)));
                break;
            case 'Q':
                String[] parts = rest.split(" ", 3);
                int way = Integer.parseInt(parts[0]);
                int bound = Integer.parseInt(parts[1]);
                int answer = tongue.ask(way, bound, parts.length > 2 ? parts[2] : "");
                answers.add("Q " + told(answer) + (answer == 0 ? " " + sized(tongue.show(3, 0)) : ""));
                break;
            case 'N':
                answers.add(next(false));
                break;
            case 'A':
                all(answers);
                break;
            case 'B':
                fourth(answers);
                break;
            default:
                functions(answers);
                break;
        }
        return answers;
    }

    /** Each module gets an object of its own: an object serves 512 calls. */
    private static void fresh() {
        tongue = new Tongue();
    }

    private static String told(int answer) {
        return answer < 0 ? answer + " kind " + tongue.tongue.fault() : "" + answer;
    }

    private static String sized(String text) {
        return text == null ? "NONE" : text.length() + ":" + text;
    }

    private static String next(boolean places) {
        ChoiceTongue x = tongue.tongue;
        int answer = x.next();
        if (answer != 1) {
            return "N " + answer;
        }
        StringBuilder text = new StringBuilder("N 1 ").append(sized(tongue.show(5, 0)));
        for (int i = 0; i < x.count(13); i++) {
            text.append(' ').append(sized(tongue.show(4, i))).append('=').append(sized(tongue.show(6, i)));
        }
        text.append(" L").append(x.count(9)).append(" S").append(x.count(10)).append(" B").append(x.count(12));
        text.append(" D").append(tongue.decisions());
        return places ? text.append(" P").append(x.count(3)).toString() : text.toString();
    }

    private static String counts() {
        StringBuilder text = new StringBuilder("C");
        for (int what = 3; what <= 8; what++) {
            text.append(' ').append(tongue.tongue.count(what));
        }
        return text.toString();
    }

    private static void all(List<String> answers) {
        String answer = "";
        do {
            answer = next(true);
            answers.add(answer);
        } while (answer.startsWith("N 1 "));
        answers.add(counts());
    }

    private static void fourth(List<String> answers) {
        ChoiceTongue x = tongue.tongue;
        for (int i = 0; i < 4; i++) {
            x.next();
        }
        answers.add("B " + x.count(3) + " " + x.count(9) + " " + x.count(11) + " " + sized(tongue.show(5, 0)));
        int end = 1;
        while (end == 1) {
            end = x.next();
        }
        answers.add("N " + end + " " + counts());
    }

    private static void functions(List<String> answers) {
        ChoiceTongue x = tongue.tongue;
        for (int f = 0; f < x.count(0); f++) {
            StringBuilder text = new StringBuilder("T ").append(sized(tongue.show(0, f)));
            text.append(" | ").append(sized(tongue.show(1, f))).append(" | ").append(sized(tongue.show(2, f))).append(" |");
            for (int what = 0; what <= 5; what++) {
                text.append(' ').append(x.fact(f, what));
            }
            answers.add(text.toString());
        }
    }
}
