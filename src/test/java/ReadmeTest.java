import java.io.IOException;
import java.io.InputStream;
import java.nio.charset.StandardCharsets;
import java.nio.file.Files;
import java.nio.file.Path;
import java.util.ArrayList;
import java.util.List;
import java.util.stream.Stream;

/**
 * README.md: its commands run as they stand there, its example answers as it says, and it names all tests. The
 * commands are run in a directory of their own, in which the sources and what is shared stand where they do here.
 */
public final class ReadmeTest {
    private static final Path HERE = Path.of("").toAbsolutePath();
    /** What is shared is not the project's own: this test may not be there any more. */
    private static final String SHARED_TEST = "ChoiceTongueRuns";
    private static final Checks CHECKS = new Checks();

    public static void main(String[] args) throws IOException, InterruptedException {
        String readme = read(Path.of("README.md"));
        Path room = Files.createTempDirectory("readme");
        Path place = Files.createDirectory(room.resolve("place"));
        Files.createSymbolicLink(place.resolve("src"), HERE.resolve("src"));
        Files.createSymbolicLink(room.resolve("shared"), HERE.resolveSibling("shared"));
        try {
            example(readme);
            commands(readme, place);
            tests(readme);
        } finally {
            remove(room);
        }
        CHECKS.end();
    }

    private static String read(Path path) throws IOException {
        return Files.readString(path, StandardCharsets.UTF_8);
    }

    /** What stands in the fences of a sort, one after the other. */
    private static List<String> fenced(String text, String sort) {
        List<String> found = new ArrayList<>();
        String begin = "\n```" + sort + "\n";
        for (int at = text.indexOf(begin); at >= 0; at = text.indexOf(begin, at + 1)) {
            int from = at + begin.length();
            found.add(text.substring(from, text.indexOf("```", from)));
        }
        return found;
    }

    private static void example(String readme) throws IOException {
        CHECKS.same("one example", fenced(readme, "java").size(), 1);
        CHECKS.same("the example", fenced(readme, "java").get(0), read(Path.of("src/example/java/Example.java")));
    }

    private static void commands(String readme, Path place) throws IOException, InterruptedException {
        int commands = 0;
        for (String fence : fenced(readme, "sh")) {
            for (String command : fence.split("\n")) {
                commands++;
                if (command.equals(".ci/run")) {
                    CHECKS.holds(command, Files.isExecutable(Path.of(command)));
                } else if (!command.contains(SHARED_TEST) || Files.exists(Path.of("../shared/tests", SHARED_TEST + ".java"))) {
                    command(command, place, fenced(readme, "text").get(0));
                }
            }
        }
        CHECKS.same("commands", commands, 8);
    }

    private static void command(String command, Path place, String due) throws IOException, InterruptedException {
        Process process = new ProcessBuilder("sh", "-c", command).directory(place.toFile())
                .redirectErrorStream(true).start();
        String answer = "";
        try (InputStream in = process.getInputStream()) {
            answer = new String(in.readAllBytes(), StandardCharsets.UTF_8);
        }
        CHECKS.same(command + "\n" + answer, process.waitFor(), 0);
        if (command.endsWith(" Example")) {
            CHECKS.same(command, answer, due);
        }
    }

    /** Each test is named, and each name is one of a test. */
    private static void tests(String readme) throws IOException {
        try (Stream<Path> files = Files.list(Path.of("src/test/java"))) {
            for (Path file : files.toList()) {
                String name = file.getFileName().toString().replace(".java", "");
                if (name.endsWith("Test")) {
                    CHECKS.holds("README.md names " + name, readme.contains("`" + name + "`"));
                }
            }
        }
        for (String word : readme.split("`")) {
            if (word.matches("[A-Z][A-Za-z]*Test")) {
                CHECKS.holds("there is " + word, Files.exists(Path.of("src/test/java/" + word + ".java")));
            }
        }
    }

    private static void remove(Path room) throws IOException {
        try (Stream<Path> paths = Files.walk(room)) {
            for (Path path : paths.sorted((a, b) -> b.compareTo(a)).toList()) {
                Files.delete(path);
            }
        }
    }
}
