import java.io.IOException;
import java.nio.file.Files;
import java.nio.file.Path;
import java.util.Arrays;

/**
 * Each sentence of the document that names a boundary case has cases of its own, under its promise's number.
 * With a first argument it prints what of the document no case quotes.
 */
public final class BoundaryTest extends Cases {
    private static final Path DOCUMENT = Path.of("../shared/DOC.md");

    public static void main(String[] args) throws IOException {
        TextBoundaries.run();
        FieldBoundaries.run();
        for (int number = 1; number <= 31; number++) {
            due("sentences of promise " + number, PROMISES.contains(number), true);
        }
        if (Files.exists(DOCUMENT)) {
            lookUpQuotes(args.length > 0);
        }
        end("all boundaries are kept");
    }

    /** A quote that is not in the document is told, but is no fault of the program. */
    private static void lookUpQuotes(boolean printOpen) throws IOException {
        String document = Files.readString(DOCUMENT).replaceAll("\\s+", " ");
        boolean[] quoted = new boolean[document.length()];
        for (String quote : QUOTES) {
            String plain = quote.replaceAll("\\s+", " ");
            int at = document.indexOf(plain);
            if (at < 0) {
                System.out.println("not in the document: " + quote);
            }
            for (; at >= 0; at = document.indexOf(plain, at + 1)) {
                Arrays.fill(quoted, at, at + plain.length(), true);
            }
        }
        StringBuilder open = new StringBuilder();
        for (int i = 0; i < quoted.length; i++) {
            open.append(quoted[i] ? (i > 0 && quoted[i - 1] ? "" : "\n") : document.substring(i, i + 1));
        }
        if (printOpen) {
            System.out.println(open);
        }
    }
}
