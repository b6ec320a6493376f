import java.io.IOException;

/**
 * One object takes one house after the other, and answers all as a new object does that takes the last
 * alone: of the houses ahead nothing is left over. The houses are the empty one, that of one, the full
 * ones and some between.
 */
public final class AnewTest {
    private static final String EMPTY = "";
    private static final String WORKS_ALONE = "work 0 8;work 23 1;";
    private static final String SOME = "person 8 drawn 300;person 6 drawn 200;person 3;work 6 2;work 7 2;work 20 4;"
            + "can 0 0 5;can 0 1 3;can 1 1 9;can 1 2 1;can 2 0 2;learn 1 0 3 99;learn 0 2 4 7;learn 2 1 1 1;forget 3;";

    private static void ask(StringBuilder all, String name, Check.Call call) {
        all.append(name).append(' ').append(Check.outcome(call)).append('\n');
    }

    /** What a house answers: at most some 450 calls. */
    private static String answers(FullHouse x) {
        StringBuilder all = new StringBuilder();
        for (int what = 0; what < 9; what++) {
            int of = what;
            ask(all, "count " + what, () -> x.count(of));
        }
        ask(all, "fault", x::fault);
        told(all, x);
        for (int left = 0; left < 1 << x.count(0); left += 1 + left / 8) {
            int of = left;
            ask(all, "day " + left, () -> x.day(of));
            ask(all, "most " + left, () -> x.most(of));
            ask(all, "bars " + left, () -> x.bars(of));
            ask(all, "judge " + left, () -> x.judge(of));
        }
        for (int what = 0; what < 4; what++) {
            int of = what;
            ask(all, "any " + what, () -> x.any(of));
            ask(all, "learn one " + what, () -> x.learn(false, of));
            ask(all, "learn two " + what, () -> x.learn(true, of));
        }
        ask(all, "more", x::more);
        for (int number = 0; number <= 8; number++) {
            int of = number;
            ask(all, "does " + number, () -> x.does(of));
            ask(all, "looks " + number, () -> x.looks(31 * of));
            ask(all, "best " + number, () -> x.best(of));
        }
        weeks(all, x);
        return all.toString();
    }

    private static void told(StringBuilder all, FullHouse x) {
        for (int number = 0; number < 8; number++) {
            int n = number;
            ask(all, "hours " + n, () -> x.person(n, 0));
            ask(all, "chance " + n, () -> x.person(n, 1));
            ask(all, "can " + n, () -> x.person(n, 2));
            ask(all, "hour " + n, () -> x.work(n, 0));
            ask(all, "long " + n, () -> x.work(n, 1));
            ask(all, "doers " + n, () -> x.work(n, 2));
            ask(all, "skill at 0 of " + n, () -> x.skill(n, 0));
            ask(all, "skill of 0 at " + n, () -> x.skill(0, n));
            ask(all, "learner " + n, () -> x.teaching(n, 0));
            ask(all, "lesson " + n, () -> x.teaching(n, 1));
            ask(all, "pains " + n, () -> x.teaching(n, 3));
            ask(all, "worth " + n, () -> x.worth(n, 0));
            ask(all, "often " + n, () -> x.often(n, 500));
            ask(all, "seldom " + n, () -> x.seldom(n, 5));
        }
    }

    private static void weeks(StringBuilder all, FullHouse x) {
        ask(all, "restore", () -> Check.bit(x.restore()));
        ask(all, "image", () -> Check.bit(x.image()));
        ask(all, "week", () -> x.week(0, 0));
        x.begin(5);
        x.on(6);
        for (int week = 0; week < 6; week++) {
            int of = week;
            ask(all, "away " + week, () -> x.week(of, 0));
            for (int w = 0; w < 8; w += 3) {
                int what = 10 + w;
                ask(all, "week " + week + " " + what, () -> x.week(of, what));
            }
        }
        for (int p = 0; p < 6; p++) {
            int of = p;
            ask(all, "knows " + p, () -> x.knows(of));
        }
        x.image();
    }

    private static void take(FullHouse x, String text) {
        Check.feed(x, text);
        Check.due("house of " + text, 0, () -> x.house(text.length()));
    }

    public static void main(String[] args) throws IOException {
        Check.readDocument(args);
        Check.promise(3, "The tape's first n bytes (it is empty then) are a HOUSE, all anew: 0, or the FAULT (all stays).");
        String[] houses = {EMPTY, WORKS_ALONE, Houses.ofOne(), SOME, Houses.full(), Houses.idle()};
        for (String third : houses) {
            String want = answers(Check.houseOf(third));
            for (String second : houses) {
                // a text goes where the one ahead of the last was, so three are taken
                for (String first : houses) {
                    FullHouse x = new FullHouse();
                    take(x, first);
                    x.looks(0);
                    take(x, second);
                    x.looks(0);
                    x.day(0);
                    x.learn(true, 0);
                    take(x, third);
                    Check.same("behind '" + first + "' and '" + second + "' what '" + third + "' answers", answers(x), want);
                }
            }
        }
        Check.end();
    }
}
