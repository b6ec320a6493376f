import java.io.IOException;
import java.nio.file.Files;
import java.nio.file.Path;
import java.util.NoSuchElementException;
import java.util.TreeSet;

/** What the tests of promises share: calls with the answer that is due, and texts for the tape. */
final class Check {
    /** A call that answers a number (a boolean counts 1 or 0). */
    interface Call {
        long answer();
    }

    static final String NO_SUCH = "throws.NoSuchElementException";
    static final String ILLEGAL = "throws.IllegalArgumentException";
    /** Numbers that no call takes as a place, a set or a number of its own. */
    static final int[] FAR = {Integer.MIN_VALUE, Integer.MIN_VALUE + 1, -65536, -256, -2, 256, 65536,
        Integer.MAX_VALUE - 1, Integer.MAX_VALUE};

    private static int wrong = 0;
    private static String document = "";
    private static String heading = "";
    private static final TreeSet<Integer> PROMISES = new TreeSet<>();

    private Check() { }

    static void due(String name, long want, Call call) {
        due(name, Long.toString(want), call);
    }

    static void due(String name, String want, Call call) {
        String got = outcome(call);
        if (!got.equals(want)) {
            fail(name + " answered " + got + ", due is " + want);
        }
    }

    static void same(String name, String got, String want) {
        if (!got.equals(want)) {
            fail(name + " is\n  " + got + "\ndue is\n  " + want);
        }
    }

    private static void fail(String message) {
        wrong++;
        System.out.println(heading + message);
    }

    static String outcome(Call call) {
        try {
            return Long.toString(call.answer());
        } catch (NoSuchElementException e) {
            return e.getClass() == NoSuchElementException.class ? NO_SUCH : "throws." + e.getClass();
        } catch (IllegalArgumentException e) {
            return e.getClass() == IllegalArgumentException.class ? ILLEGAL : "throws." + e.getClass();
        } catch (RuntimeException e) {
            return "throws." + e.getClass();
        }
    }

    static long bit(boolean answer) {
        return answer ? 1 : 0;
    }

    /** The document, beside the project's root, so that sentences can be held against it where it is at hand. */
    static void readDocument(String[] args) throws IOException {
        Path file = Path.of(args.length > 0 ? args[0] : ".", "../shared/DOC.md");
        if (Files.exists(file)) {
            document = Files.readString(file).replaceAll("\\s+", " ");
        }
    }

    /** What is tested from here on: a sentence of the document's terms. */
    static void terms(String sentence) {
        section("## Terms", "## Promise 1:", "Terms", sentence);
    }

    /** What is tested from here on: a sentence of a promise. */
    static void promise(int number, String sentence) {
        PROMISES.add(number);
        String next = number == 29 ? "## Not promised" : "## Promise " + (number + 1) + ":";
        section("## Promise " + number + ":", next, "Promise " + number, sentence);
    }

    /** A test is of no use for a sentence that the document doesn't have. */
    private static void section(String from, String to, String name, String sentence) {
        heading = name + " '" + sentence + "': ";
        if (document.isEmpty()) {
            return;
        }
        int start = Math.max(0, document.indexOf(from));
        int end = Math.max(start, document.indexOf(to, start));
        if (!document.substring(start, end).contains(sentence)) {
            fail("the document doesn't say so");
        }
    }

    /** Each of these promises has had a sentence. */
    static void allPromises(int first, int last) {
        heading = "";
        for (int number = first; number <= last; number++) {
            if (!PROMISES.contains(number)) {
                fail("promise " + number + " has no test");
            }
        }
    }

    /** Feeds a text, filled up with blanks. */
    static void feed(FullHouse x, String text) {
        int[] n = Model.numbers(text);
        for (int i = 0; i < n.length; i += 5) {
            x.feed(n[i], n[i + 1], n[i + 2], n[i + 3], n[i + 4]);
        }
    }

    static FullHouse houseOf(String text) {
        FullHouse x = new FullHouse();
        feed(x, text);
        due("house of " + text, 0, () -> x.house(text.length()));
        return x;
    }

    /** The fault of a text on a new object (0: none), and its place. */
    static void fault(String text, int kind, int place) {
        FullHouse x = new FullHouse();
        feed(x, text);
        due("house of '" + text + "'", kind, () -> x.house(text.length()));
        due("fault of '" + text + "'", place, x::fault);
        due("refused texts of '" + text + "'", kind == 0 ? 0 : 1, () -> x.count(5));
        due("tape behind '" + text + "'", 0, () -> x.count(4));
    }

    static void fine(String text) {
        fault(text, 0, FullHouse.NONE);
    }

    /** As fault, at the place of a mark in the text that isn't part of it. */
    static void faultAt(String marked, int kind) {
        int place = marked.indexOf('^');
        fault(marked.substring(0, place) + marked.substring(place + 1), kind, place);
    }

    static void end() {
        System.exit(wrong == 0 ? 0 : 1);
    }
}
