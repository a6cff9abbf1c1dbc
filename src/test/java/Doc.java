import java.io.IOException;
import java.nio.file.Files;
import java.nio.file.Path;

/** The document's own words, so that a test that quotes a sentence is held to it. */
final class Doc {
    private static final Path PLACE = Path.of("../shared/DOC.md");
    private static final String TEXT = read();

    private Doc() {
    }

    /** Whether the document has these words; where there is no document to look into, they are believed. */
    static boolean says(String words) {
        return TEXT.isEmpty() || TEXT.contains(words);
    }

    private static String read() {
        try {
            return Files.readString(PLACE).replaceAll("\\s+", " ");
        } catch (IOException missing) {
            System.out.println("no " + PLACE + ": quotes are not looked up");
            return "";
        }
    }
}
