import java.io.IOException;
import java.io.UncheckedIOException;
import java.nio.file.Files;
import java.nio.file.Path;

/** The document cut into its promises, so that a test can show that the words it goes by stand there. */
final class Doc {
    /** Place 0 holds the title and the terms, place k promise k. */
    private static final String[] PARTS = read(Path.of("../shared/DOC.md"));

    private Doc() {
    }

    private static String[] read(Path path) {
        try {
            return Files.readString(path).replaceAll("\\s+", " ").split("## Promise \\d+: ");
        } catch (IOException e) {
            throw new UncheckedIOException(e);
        }
    }

    static boolean says(int promise, String words) {
        return promise < PARTS.length && PARTS[promise].contains(words);
    }
}
