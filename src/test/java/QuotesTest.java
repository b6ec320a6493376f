import java.io.IOException;
import java.nio.file.Files;
import java.nio.file.Path;
import java.util.regex.Matcher;
import java.util.regex.Pattern;
import java.util.stream.Stream;

/** Of the document's terms and promises there is no sentence that no test quotes. */
public final class QuotesTest {
    private static final String TEXT = "\"((?:[^\"\\\\]|\\\\.)*)\"";
    private static final Pattern QUOTE = Pattern.compile(
            "Check\\.(?:terms|promise)\\((?:(\\d+),\\s*)?(" + TEXT + "(?:\\s*\\+\\s*" + TEXT + ")*)\\)");
    /** Heads of sections, and marks that say nothing. */
    private static final Pattern HEAD = Pattern.compile(
            "## Terms|## Promise \\d+: [\\w ]+`[^`]*`:|```text|```|==== \\d\\.");
    /** Words between two quotes that only join them. */
    private static final int MOST_JOINING = 3;

    private final String document;
    private final boolean[] covered;

    private QuotesTest(String document) {
        this.document = document;
        covered = new boolean[document.length()];
    }

    private void cover(int from, int to) {
        for (int i = from; i < to; i++) {
            covered[i] = true;
        }
    }

    private void coverHeads() {
        Matcher head = HEAD.matcher(document);
        while (head.find()) {
            cover(head.start(), head.end());
        }
    }

    /** A sentence of the terms covers itself wherever it stands in them, that of a promise in this one. */
    private void coverQuotes(String source) {
        Matcher quote = QUOTE.matcher(source);
        while (quote.find()) {
            StringBuilder sentence = new StringBuilder();
            Matcher part = Pattern.compile(TEXT).matcher(quote.group(2));
            while (part.find()) {
                sentence.append(part.group(1).replace("\\\"", "\""));
            }
            int promise = quote.group(1) == null ? 0 : Integer.parseInt(quote.group(1));
            int from = promise == 0 ? 0 : startOf(promise);
            int to = startOf(promise + 1);
            int at = document.indexOf(sentence.toString(), from);
            while (at >= 0 && at < to) {
                cover(at, at + sentence.length());
                at = document.indexOf(sentence.toString(), at + 1);
            }
        }
    }

    private int startOf(int promise) {
        int start = document.indexOf("## Promise " + promise + ":");
        return start < 0 ? document.length() : start;
    }

    /** Prints what no test quotes, but for what only joins; how much that was. */
    private int printUncovered() {
        int found = 0;
        int from = 0;
        while (from < document.length()) {
            int to = from;
            while (to < document.length() && covered[to] == covered[from]) {
                to++;
            }
            String words = document.substring(from, to).replaceAll("[^\\w' ]", " ").strip();
            if (!covered[from] && words.split("\\s+").length > MOST_JOINING) {
                found++;
                System.out.println("no test quotes: " + document.substring(from, to).strip());
            }
            from = to;
        }
        return found;
    }

    public static void main(String[] args) throws IOException {
        Path root = Path.of(args.length > 0 ? args[0] : ".");
        String all = Files.readString(root.resolve("../shared/DOC.md")).replaceAll("\\s+", " ");
        int start = all.indexOf("## Terms");
        int end = all.indexOf("## Not promised");
        if (start < 0 || end < start) {
            System.out.println("the document has no terms and promises");
            System.exit(1);
        }
        QuotesTest test = new QuotesTest(all.substring(start, end));
        test.coverHeads();
        try (Stream<Path> files = Files.list(root.resolve("src/test/java"))) {
            for (Path file : (Iterable<Path>) files.sorted()::iterator) {
                test.coverQuotes(Files.readString(file));
            }
        }
        System.exit(test.printUncovered() == 0 ? 0 : 1);
    }
}
