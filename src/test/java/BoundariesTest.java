import java.io.IOException;
import java.nio.file.Files;
import java.nio.file.Path;

/**
 * For each sentence of the document that names a boundary case a test of its own: each names its promise and the
 * words that it holds the class to, which must stand in the document. With an argument it also prints what of the
 * document no test quotes.
 */
public final class BoundariesTest {
    private static final int PROMISES = 39;

    private static String plain(String text) {
        return text.replaceAll("\\s+", " ");
    }

    private static void quotesStand(String document) {
        for (String quote : Due.QUOTES) {
            if (!document.contains(plain(quote))) {
                Due.wrong("these words do not stand in the document: " + quote);
            }
        }
    }

    private static void everyPromise() {
        for (int promise = 1; promise <= PROMISES; promise++) {
            if (!Due.TESTS.containsKey(promise)) {
                Due.wrong("no test names promise " + promise);
            }
        }
    }

    /** What is quoted becomes dots. */
    private static void tellUnquoted(String document) {
        StringBuilder left = new StringBuilder(document);
        for (String quote : Due.QUOTES) {
            String words = plain(quote);
            for (int at = document.indexOf(words); at >= 0; at = document.indexOf(words, at + 1)) {
                for (int i = at; i < at + words.length(); i++) {
                    left.setCharAt(i, '.');
                }
            }
        }
        System.out.println(left.toString().replaceAll("\\.{4,}", " ... "));
    }

    public static void main(String[] args) throws IOException {
        PipesBounds.all();
        StepsBounds.all();
        WaysBounds.all();
        BellsBounds.all();
        SheetsBounds.all();
        WholeBounds.all();
        String document = plain(Files.readString(Path.of("../shared/DOC.md")));
        quotesStand(document);
        everyPromise();
        if (args.length > 0) {
            tellUnquoted(document);
        }
        System.out.println("BoundariesTest: " + Due.QUOTES.size() + " sentences, " + Due.answers + " answers, "
                + Due.failed + " not as due");
        if (Due.failed != 0) {
            System.exit(1);
        }
    }
}
