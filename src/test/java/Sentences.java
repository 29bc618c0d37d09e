import java.io.IOException;
import java.io.UncheckedIOException;
import java.nio.charset.StandardCharsets;
import java.nio.file.Files;
import java.nio.file.Path;

/** Sentences of the document that name a boundary, each with a test of its own. */
final class Sentences {
    final Checks checks = new Checks();
    private final String document = plain(read());
    private int told = 0;

    private static String read() {
        try {
            return Files.readString(Path.of("../shared/DOC.md"), StandardCharsets.UTF_8);
        } catch (IOException e) {
            throw new UncheckedIOException(e);
        }
    }

    /** Without the marks of the page, and with one blank wherever there are some. */
    private static String plain(String text) {
        return text.replace("`", "").replaceAll("\\s+", " ");
    }

    /** One sentence, as it stands in the document, and its test. */
    void says(String sentence, Runnable test) {
        checks.about(sentence);
        checks.due("the document has this sentence", document.contains(plain(sentence)), true);
        test.run();
        checks.about("");
        told++;
    }

    void finish(String name) {
        checks.finish(name + ", " + told + " sentences");
    }
}
