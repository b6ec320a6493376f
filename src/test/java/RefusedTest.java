import java.io.IOException;
import java.util.LinkedHashMap;
import java.util.Map;
import java.util.function.ToLongFunction;

/**
 * What a call leaves as it was: two objects are made alike, one takes the call, and then all that can
 * be asked of either is held against the other, but for what the document says that the call changes.
 */
public final class RefusedTest {
    private static final String HOUSE = "person 8 drawn 300;person 6 drawn 200;work 6 2;work 7 2;work 20 4;"
            + "can 0 0 5;can 0 1 3;can 1 1 9;can 1 2 1;learn 1 0 3 99;learn 0 2 4 7;forget 3;";

    private interface Change {
        void on(FullHouse x);
    }

    /** A house with a kept row, a told one, weeks, an image ahead of them, a fault, counts. */
    private static FullHouse withoutTape() {
        FullHouse x = Check.houseOf(HOUSE);
        Check.feed(x, "person 25;");
        x.house(10);
        x.day(3);
        x.tell(0, 0);
        x.tell(1, 1);
        x.tell(2, 1);
        x.tell(3, 1);
        x.tell(4, 1);
        x.on(1);
        x.on(1);
        x.on(1);
        x.begin(9);
        x.on(4);
        x.image();
        x.on(3);
        return x;
    }

    /** The same with something on the tape. */
    private static FullHouse lived() {
        FullHouse x = withoutTape();
        Check.feed(x, "person 1;");
        return x;
    }

    /** The same house without a kept row, weeks or an image. */
    private static FullHouse fresh() {
        FullHouse x = Check.houseOf(HOUSE);
        x.tell(2, 1);
        return x;
    }

    /** As lived, with 200 weeks and a full tape. */
    private static FullHouse full() {
        FullHouse x = lived();
        Check.feed(x, " ".repeat(780));
        x.on(60);
        x.on(60);
        x.on(60);
        x.on(13);
        return x;
    }

    /** All that can be asked; the weeks that would come, and the image, at last. */
    private static Map<String, String> all(FullHouse x) {
        Map<String, String> all = new LinkedHashMap<>();
        for (int what = 0; what < 9; what++) {
            int of = what;
            put(all, "count " + what, () -> x.count(of));
        }
        put(all, "fault", x::fault);
        for (int person = 0; person < 2; person++) {
            int p = person;
            for (int what = 0; what < 3; what++) {
                int of = what;
                put(all, "person " + p + " " + what, () -> x.person(p, of));
                put(all, "skill " + p + " " + what, () -> x.skill(p, of));
            }
            put(all, "knows " + p, () -> x.knows(p));
            put(all, "upper " + p, () -> x.worth(p, 0));
            put(all, "lower " + p, () -> x.worth(p, 1));
        }
        for (int number = 0; number < 3; number++) {
            int w = number;
            for (int what = 0; what < 4; what++) {
                int of = what;
                put(all, "work " + w + " " + what, () -> x.work(w, of));
                put(all, "teaching " + w + " " + what, () -> x.teaching(w, of));
            }
            put(all, "does " + w, () -> x.does(w));
            put(all, "learn one " + w, () -> x.learn(false, w));
            put(all, "learn two " + w, () -> x.learn(true, w));
        }
        for (int set = 0; set < 4; set++) {
            int left = set;
            put(all, "judge " + left, () -> x.judge(left));
            put(all, "most " + left, () -> x.most(left));
            put(all, "any " + left, () -> x.any(left));
            put(all, "best " + left, () -> x.best(left));
            put(all, "looks " + left, () -> x.looks(left));
        }
        put(all, "more", x::more);
        putWeeks(all, "weeks", x);
        x.on(5);
        putWeeks(all, "weeks to come", x);
        put(all, "restore", () -> Check.bit(x.restore()));
        putWeeks(all, "image", x);
        x.on(5);
        putWeeks(all, "weeks behind it", x);
        // the tape: what it has is read, with a line behind it
        Check.feed(x, "forget 44;");
        put(all, "text", () -> x.house(x.count(4)));
        put(all, "fault of it", x::fault);
        put(all, "people of it", () -> x.count(0));
        put(all, "forget of it", () -> x.count(3));
        return all;
    }

    private static void putWeeks(Map<String, String> all, String name, FullHouse x) {
        int been = x.count(8);
        for (int week = Math.max(0, been - 8); week < been; week++) {
            StringBuilder row = new StringBuilder();
            for (int what : new int[] {0, 1, 10, 11, 12}) {
                row.append(x.week(week, what)).append(' ');
            }
            all.put(name + " " + week, row.toString());
        }
        put(all, name + " known by 0", () -> x.knows(0));
        put(all, name + " known by 1", () -> x.knows(1));
    }

    private static void put(Map<String, String> all, String name, Check.Call call) {
        all.put(name, Check.outcome(call));
    }

    private interface Maker {
        FullHouse made();
    }

    /** All is the same behind a call, but for what is told as pairs of a name and what it is then. */
    private static void leaves(Maker maker, String call, Change change, String... but) {
        Map<String, String> want = all(maker.made());
        for (int i = 0; i < but.length; i += 2) {
            want.put(but[i], but[i + 1]);
        }
        FullHouse x = maker.made();
        change.on(x);
        Map<String, String> got = all(x);
        for (String name : want.keySet()) {
            Check.same("behind " + call + " " + name, String.valueOf(got.get(name)), want.get(name));
        }
        Check.same("behind " + call + " names", got.keySet().toString(), want.keySet().toString());
    }

    private static void refused(Maker maker, String name, String want, ToLongFunction<FullHouse> call, String... but) {
        leaves(maker, name, x -> Check.due(name, want, () -> call.applyAsLong(x)), but);
    }

    private static void texts() {
        Check.promise(2, "NONE, and none come, if it would have more than 800.");
        refused(RefusedTest::full, "feed", "-1", x -> x.feed(0x70657273, 0x6f6e2037, 0x20647261, 0x776e2033, 0x32313b20));

        Check.promise(3, "or the FAULT (all stays).");
        String[] texts = {"X", "person 5;person 25;", "work 1 1;can 0 0 5;", "person 5;work 1 1;can 0 0 5;can 0 0 6;",
            "person 5;forget 7;forget 8;", "person 5 drawn 999;person 5 drawn 2;", "person"};
        int[] kinds = {1, 2, 3, 4, 5, 5, 1};
        int[] places = {0, 16, 13, 34, 18, 34, 6};
        for (int i = 0; i < texts.length; i++) {
            String text = texts[i];
            String kind = Integer.toString(kinds[i]);
            leaves(RefusedTest::withoutTape, "house of " + text, x -> {
                Check.feed(x, text);
                Check.due("house of " + text, kind, () -> x.house(text.length()));
            }, "count 5", "2", "fault", Integer.toString(places[i]));
        }

        Check.promise(3, "IllegalArgumentException: the tape has not so many, n below 0 (nothing changes).");
        for (int n : new int[] {-1, 21, 800, 801, Integer.MIN_VALUE, Integer.MAX_VALUE}) {
            refused(RefusedTest::lived, "house " + n, Check.ILLEGAL, x -> x.house(n));
        }
        for (int n : new int[] {-1, 801}) {
            refused(RefusedTest::full, "house " + n + " of a full tape", Check.ILLEGAL, x -> x.house(n));
        }
    }

    private static void rows() {
        Check.promise(10, "NONE: they can't (what is kept stays).");
        for (int left = 0; left < 3; left++) {
            int of = left;
            refused(RefusedTest::lived, "day " + left, "-1", x -> x.day(of));
            refused(RefusedTest::fresh, "day " + left + ", none kept", "-1", x -> x.day(of));
        }
        Check.promise(14, "False (STATUS 1): no such WORK, PERSON.");
        for (int[] pair : new int[][] {{3, 0}, {-1, 0}, {0, 2}, {0, -2}, {3, -1}, {-1, -1}, {Integer.MAX_VALUE,
                Integer.MIN_VALUE}}) {
            refused(RefusedTest::lived, "tell " + pair[0] + " " + pair[1], "0",
                    x -> Check.bit(x.tell(pair[0], pair[1])), "count 6", "3");
        }
        Check.promise(14, "is a PERSON's (NONE: nobody's): true.");
        leaves(RefusedTest::lived, "told otherwise and back", x -> {
            x.tell(1, -1);
            x.tell(1, 0);
            x.tell(1, 1);
        });
    }

    private static void weeks() {
        Check.promise(25, "NONE (STATUS 2): they would be more than 200, or none have begun.");
        refused(RefusedTest::full, "on 1 at 200", "-1", x -> x.on(1), "count 7", "4");
        refused(RefusedTest::full, "on 60 at 200", "-1", x -> x.on(60), "count 7", "4");
        refused(RefusedTest::fresh, "on 0, none begun", "-1", x -> x.on(0), "count 7", "1");
        refused(RefusedTest::fresh, "on 60, none begun", "-1", x -> x.on(60), "count 7", "1");
        Check.promise(25, "IllegalArgumentException (ahead): how many.");
        for (int weeks : new int[] {-1, 61, Integer.MIN_VALUE, Integer.MAX_VALUE}) {
            refused(RefusedTest::lived, "on " + weeks, Check.ILLEGAL, x -> x.on(weeks));
            refused(RefusedTest::full, "on " + weeks + " at 200", Check.ILLEGAL, x -> x.on(weeks));
            refused(RefusedTest::fresh, "on " + weeks + ", none begun", Check.ILLEGAL, x -> x.on(weeks));
        }
        Check.promise(25, "So many WEEKS more (0 to 60): how many there were.");
        refused(RefusedTest::lived, "on 0", "7", x -> x.on(0));
        refused(RefusedTest::full, "on 0 at 200", "200", x -> x.on(0));

        Check.promise(28, "False: none have begun.");
        refused(RefusedTest::fresh, "image", "0", x -> Check.bit(x.image()));
        Check.promise(29, "False: there is none.");
        refused(RefusedTest::fresh, "restore", "0", x -> Check.bit(x.restore()));
        leaves(RefusedTest::begun, "restore, weeks have been", x -> Check.due("restore", 0, () -> Check.bit(x.restore())));

        Check.promise(24, "WEEKS begin, by a seed, in place of others; the image stays.");
        leaves(RefusedTest::lived, "the same weeks again", x -> {
            x.begin(9);
            x.on(7);
        });
        Check.promise(29, "They are as the image again: true.");
        leaves(RefusedTest::lived, "the image and the same weeks behind it", x -> {
            x.restore();
            x.on(1);
            x.restore();
            x.on(3);
        });
    }

    private static FullHouse begun() {
        FullHouse x = fresh();
        x.begin(-7);
        x.on(6);
        return x;
    }

    /** Calls that ask change nothing, whatever they are asked. */
    private static void questions() {
        Check.promise(5, "NoSuchElementException: another what.");
        leaves(RefusedTest::lived, "questions that have no answer", x -> {
            for (int n : new int[] {-1, 9, 64, Integer.MIN_VALUE, Integer.MAX_VALUE}) {
                Check.due("count", Check.NO_SUCH, () -> x.count(n));
                Check.due("person", Check.NO_SUCH, () -> x.person(n, 0));
                Check.due("work", Check.NO_SUCH, () -> x.work(0, n));
                Check.due("skill", Check.NO_SUCH, () -> x.skill(n, n));
                Check.due("teaching", Check.NO_SUCH, () -> x.teaching(n, 0));
                Check.due("day", Check.ILLEGAL, () -> x.day(n));
                Check.due("does", Check.NO_SUCH, () -> x.does(n));
                Check.due("most", Check.ILLEGAL, () -> x.most(n));
                Check.due("bars", Check.ILLEGAL, () -> x.bars(n));
                Check.due("judge", Check.ILLEGAL, () -> x.judge(n));
                Check.due("any", Check.NO_SUCH, () -> x.any(n));
                Check.due("learn", Check.NO_SUCH, () -> x.learn(true, n));
                Check.due("worth", Check.NO_SUCH, () -> x.worth(0, n));
                Check.due("looks", Check.ILLEGAL, () -> x.looks(n));
                Check.due("best", Check.ILLEGAL, () -> x.best(n));
                Check.due("often", Check.NO_SUCH, () -> x.often(n, 0));
                Check.due("seldom", Check.NO_SUCH, () -> x.seldom(n, 0));
                Check.due("week", Check.NO_SUCH, () -> x.week(0, n));
                Check.due("knows", Check.NO_SUCH, () -> x.knows(n));
            }
            Check.due("often told", Check.ILLEGAL, () -> x.often(0, 1001));
            Check.due("seldom days", Check.ILLEGAL, () -> x.seldom(0, 5001));
        });
        Check.promise(17, "LEARN for any two (two true), any one: PAINS (what 0), the set as bits (1), BOUND (2); "
                + "NONE: none.");
        leaves(RefusedTest::lived, "questions that have one", x -> {
            for (int n = 0; n < 3; n++) {
                x.learn(false, n);
                x.learn(true, n);
                x.most(n);
                x.bars(n);
                x.judge(n);
                x.any(n);
                x.looks(n);
                x.best(n);
                x.week(n, 1);
            }
            x.more();
            x.worth(1, 0);
            x.often(1, 500);
            x.seldom(1, 5);
            x.knows(1);
            x.fault();
        });
    }

    public static void main(String[] args) throws IOException {
        Check.readDocument(args);
        texts();
        rows();
        weeks();
        questions();
        Check.end();
    }
}
