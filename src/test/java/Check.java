import java.util.NoSuchElementException;

/** What the tests of promises share: calls with the answer that is due, and texts for the tape. */
final class Check {
    /** A call that answers a number (a boolean counts 1 or 0). */
    interface Call {
        long answer();
    }

    static final String NO_SUCH = "throws.NoSuchElementException";
    static final String ILLEGAL = "throws.IllegalArgumentException";

    private static int wrong = 0;

    private Check() { }

    static void due(String name, long want, Call call) {
        due(name, Long.toString(want), call);
    }

    static void due(String name, String want, Call call) {
        String got = outcome(call);
        if (!got.equals(want)) {
            wrong++;
            System.out.println(name + " answered " + got + ", due is " + want);
        }
    }

    static String outcome(Call call) {
        try {
            return Long.toString(call.answer());
        } catch (NoSuchElementException e) {
            return NO_SUCH;
        } catch (IllegalArgumentException e) {
            return e.getClass() == IllegalArgumentException.class ? ILLEGAL : "throws." + e.getClass();
        } catch (RuntimeException e) {
            return "throws." + e.getClass();
        }
    }

    static long bit(boolean answer) {
        return answer ? 1 : 0;
    }

    /** Feeds a text, filled up with blanks. */
    static void feed(FullHouse x, String text) {
        int[] n = Model.numbers(text);
        for (int i = 0; i < n.length; i += 5) {
            x.feed(n[i], n[i + 1], n[i + 2], n[i + 3], n[i + 4]);
        }
    }

    static FullHouse houseOf(String text) {
        FullHouse x = new FullHouse();
        feed(x, text);
        due("house of " + text, 0, () -> x.house(text.length()));
        return x;
    }

    static void end() {
        System.exit(wrong == 0 ? 0 : 1);
    }
}
