import java.io.IOException;
import java.lang.reflect.Method;
import java.nio.charset.StandardCharsets;
import java.nio.file.Files;
import java.nio.file.Path;
import java.util.ArrayList;
import java.util.Comparator;
import java.util.List;
import java.util.regex.Matcher;
import java.util.regex.Pattern;
import java.util.stream.Stream;

/** What README.md says works as it is written, from a clean checkout. */
public final class ReadmeTest {
    private static final Pattern BLOCK = Pattern.compile("(?m)^```([a-z]+)\n(.*?)^```$", Pattern.DOTALL);
    private static final Path TESTS = Path.of("src/test/java");
    /** This test is a part of it, so it is not run from here again. */
    private static final String ALL_TESTS = ".ci/run";
    private static final Check check = new Check();

    private record Block(String kind, String text) {
    }

    private record Ran(int exitCode, String printed) {
    }

    public static void main(String[] args) throws IOException, InterruptedException {
        String readme = Files.readString(Path.of("README.md"));
        namesAllCalls(readme);
        namesAllTests(readme);
        List<Block> blocks = blocksOf(readme);
        showsTheExample(blocks);
        Path place = Files.createTempDirectory("readme");
        try {
            commandsWork(blocks, cleanCopy(place));
        } finally {
            remove(place);
        }
        check.end("ReadmeTest");
    }

    private static void isTrue(String label, boolean got) {
        check.due(label, got ? 1 : 0, 1);
    }

    private static void namesAllCalls(String readme) {
        for (Method method : SectionLand.class.getMethods()) {
            if (method.getDeclaringClass() == SectionLand.class) {
                isTrue("README has a row of " + method.getName(), readme.contains("\n| `" + method.getName() + "("));
            }
        }
        isTrue("README tells NONE", readme.contains("`NONE` (" + SectionLand.NONE + ")"));
        isTrue("README tells BAD", readme.contains("`BAD` (" + SectionLand.BAD + ")"));
        isTrue("README tells STATE", readme.contains("`STATE` (" + SectionLand.STATE + ")"));
        isTrue("README tells FULL", readme.contains("`FULL` (" + SectionLand.FULL + ")"));
    }

    private static void namesAllTests(String readme) throws IOException {
        try (Stream<Path> files = Files.list(TESTS)) {
            for (Path file : files.toList()) {
                String name = file.getFileName().toString().replace(".java", "");
                if (name.endsWith("Test")) {
                    isTrue("README tells of " + name, readme.contains("`" + name + "`:"));
                }
            }
        }
    }

    private static List<Block> blocksOf(String readme) {
        List<Block> blocks = new ArrayList<>();
        Matcher matcher = BLOCK.matcher(readme);
        while (matcher.find()) {
            blocks.add(new Block(matcher.group(1), matcher.group(2)));
        }
        return blocks;
    }

    private static void showsTheExample(List<Block> blocks) throws IOException {
        String example = Files.readString(TESTS.resolve("Example.java"));
        isTrue("README shows Example.java", blocks.contains(new Block("java", example)));
        isTrue("README tells how all tests are run", blocks.contains(new Block("sh", ALL_TESTS + "\n")));
    }

    /** The sources alone, next to the shared directory, so that nothing left by an earlier run helps. */
    private static Path cleanCopy(Path place) throws IOException {
        Files.createSymbolicLink(place.resolve("shared"), Path.of("../shared").toRealPath());
        Path copy = Files.createDirectory(place.resolve("main"));
        try (Stream<Path> files = Files.walk(Path.of("src"))) {
            for (Path file : files.toList()) {
                Files.copy(file, copy.resolve(file.toString()));
            }
        }
        return copy;
    }

    /** Each block of commands, in its order; a text behind it is what they print. */
    private static void commandsWork(List<Block> blocks, Path copy) throws IOException, InterruptedException {
        int ran = 0;
        for (int i = 0; i < blocks.size(); i++) {
            String commands = blocks.get(i).text;
            if (!blocks.get(i).kind.equals("sh") || commands.trim().equals(ALL_TESTS)) {
                continue;
            }
            Ran result = run(commands, copy);
            ran++;
            check.due("exit code of\n" + commands + result.printed, result.exitCode, 0);
            if (i + 1 < blocks.size() && blocks.get(i + 1).kind.equals("text")) {
                isTrue("README tells what is printed:\n" + result.printed, result.printed.equals(blocks.get(i + 1).text));
            }
        }
        check.due("the example, a test of the project and a shared one were run", ran, 3);
    }

    private static Ran run(String commands, Path where) throws IOException, InterruptedException {
        Process process = new ProcessBuilder("sh", "-eu", "-c", commands)
                .directory(where.toFile()).redirectErrorStream(true).start();
        process.getOutputStream().close();
        String printed = new String(process.getInputStream().readAllBytes(), StandardCharsets.UTF_8);
        return new Ran(process.waitFor(), printed);
    }

    private static void remove(Path place) throws IOException {
        try (Stream<Path> files = Files.walk(place)) {
            for (Path file : files.sorted(Comparator.reverseOrder()).toList()) {
                Files.delete(file);
            }
        }
    }
}
