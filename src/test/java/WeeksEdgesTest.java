import java.io.IOException;
import java.math.BigInteger;

/** ==== 4 and 5 and promises 20 to 29: for each sentence that names a boundary case a test of its own. */
public final class WeeksEdgesTest {
    private static final int[] SEEDS = {0, 1, -1, 2, 77, 4711, 65535, 65536, 1 << 30, Integer.MAX_VALUE,
        Integer.MAX_VALUE - 1, Integer.MIN_VALUE, Integer.MIN_VALUE + 1, 0x12345678, 0xdeadbeef};

    /** The draw of 1000 of a week, by whole numbers that know no wrap-around. */
    private static int draw(int seed, int week) {
        BigInteger wraps = BigInteger.ONE.shiftLeft(32);
        BigInteger now = BigInteger.valueOf(seed);
        for (int i = 0; i <= week; i++) {
            now = now.multiply(BigInteger.valueOf(1103515245)).add(BigInteger.valueOf(12345)).mod(wraps);
        }
        return now.shiftRight(16).mod(BigInteger.ONE.shiftLeft(15)).intValue() % 1000;
    }

    /** A seed from 0 on whose draw in week 0 is so. */
    private static int seedOfDraw(int draw) {
        int seed = 0;
        while (draw(seed, 0) != draw) {
            seed++;
        }
        return seed;
    }

    private static void looks() {
        // 0 to 4 do a work each by 9; 5 does all others, and theirs when they are away, by 1
        StringBuilder text = new StringBuilder("person 24 drawn 100;".repeat(6) + Houses.worksInTurn(8)
                + Houses.canAll(5, 8, 1));
        for (int p = 0; p < 5; p++) {
            text.append("can ").append(p).append(' ').append(p).append(" 9;");
        }
        FullHouse x = Check.houseOf(text.toString());
        Check.terms("sees of so many WORKS (0 to 8) by which SKILL they are done (0: not at all)");
        Check.due("at none", 400, () -> x.looks(0));
        Check.due("at the first", 600, () -> x.looks(1));
        Check.due("at the last, which 5 alone can do", 500, () -> x.looks(128));
        Check.due("at five", 1000, () -> x.looks(31));
        Check.due("at all eight", 1000, () -> x.looks(255));

        Check.promise(20, "IllegalArgumentException: bits of WORKS that there aren't.");
        for (int works = 0; works <= 8; works++) {
            FullHouse y = Check.houseOf("person 5;" + Houses.worksInTurn(works));
            int all = (1 << works) - 1;
            Check.due("all " + works, 1000, () -> y.looks(all));
            Check.due("one more than " + works, Check.ILLEGAL, () -> y.looks(all + 1));
            Check.due("all and one more than " + works, Check.ILLEGAL, () -> y.looks(2 * all + 1));
            Check.due("-1 of " + works, Check.ILLEGAL, () -> y.looks(-1));
            Check.due("best of " + works, all, () -> y.best(Integer.bitCount(all)));
            Check.due("best of none of " + works, 0, () -> y.best(0));
            int more = works + 1;
            Check.due("best of more than " + works, Check.ILLEGAL, () -> y.best(more));
        }
        for (int far : Check.FAR) {
            Check.due("looks " + far, Check.ILLEGAL, () -> x.looks(far));
        }
        for (int bit = 8; bit < 32; bit++) {
            int set = 255 | 1 << bit;
            Check.due("looks " + set, Check.ILLEGAL, () -> x.looks(set));
        }

        Check.promise(21, "IllegalArgumentException: many is not 0 to as many WORKS as there are.");
        int[] best = {0, 1, 3, 7, 15, 31, 63, 127, 255};
        for (int many = 0; many <= 8; many++) {
            int of = many;
            Check.due("best " + many, best[many], () -> x.best(of));
        }
        Check.due("best 9", Check.ILLEGAL, () -> x.best(9));
        Check.due("best -1", Check.ILLEGAL, () -> x.best(-1));
        for (int far : Check.FAR) {
            Check.due("best " + far, Check.ILLEGAL, () -> x.best(far));
        }
        Check.due("no works: best 0", 0, () -> new FullHouse().best(0));
        Check.due("no works: best 1", Check.ILLEGAL, () -> new FullHouse().best(1));

        Check.terms("BEST LOOKS: of all sets of so many WORKS that by which he is likeliest right, of like ones the "
                + "least as bits.");
        FullHouse second = Check.houseOf("person 9 drawn 300;person 9;work 1 1;work 2 1;work 3 1;" + Houses.canAll(1, 3, 1)
                + "can 0 1 9;can 0 2 9;");
        Check.due("the second as good as the third", 2, () -> second.best(1));
        Check.due("the first with the second", 3, () -> second.best(2));
    }

    private static void guesses() {
        Check.terms("When LEFT can't, all WORKS are done by nobody.");
        // without 0 the first can't be done, so that the second is done by nobody too
        FullHouse x = Check.houseOf("person 9 drawn 300;person 9 drawn 200;work 1 1;work 2 1;can 0 0 5;can 1 1 5;can "
                + "0 1 4;");
        Check.due("the second tells all", 1000, () -> x.looks(2));
        Check.due("the first tells 0", 800, () -> x.looks(1));
        FullHouse never = Check.houseOf("person 9 drawn 300;person 9 drawn 200;work 1 1;work 2 1;can 0 0 5;");
        Check.due("they can't, whoever is away: at none", 500, () -> never.looks(0));
        Check.due("they can't, whoever is away: at both", 500, () -> never.looks(3));

        Check.terms("likeliest by CHANCES (nobody: 1000 less all CHANCES)");
        Check.due("nobody always", 1000, () -> Check.houseOf("person 9;work 1 1;can 0 0 1;").looks(0));
        Check.due("nobody never", 1000, () -> Check.houseOf("person 9 drawn 1000;work 1 1;can 0 0 1;").looks(0));
        Check.due("nobody never, of two", 999, () -> Check.houseOf("person 9 drawn 1;person 9 drawn 999;").looks(0));
        Check.due("nobody, just less", 501, () -> Check.houseOf("person 9 drawn 501;").looks(0));
        Check.due("nobody, just more", 501, () -> Check.houseOf("person 9 drawn 499;").looks(0));
        Check.due("nobody, as much", 500, () -> Check.houseOf("person 9 drawn 500;").looks(0));
        Check.due("no people", 1000, () -> new FullHouse().looks(0));

        Check.terms("how likely he is right, in thousandths, is the sum of the likeliest of each such class");
        FullHouse like = Check.houseOf("person 9 drawn 250;person 9 drawn 250;person 9 drawn 250;work 1 1;can 0 0 1;"
                + "can 1 0 1;can 2 0 1;");
        Check.due("four as likely, one class", 250, () -> like.looks(1));
        FullHouse apart = Check.houseOf("person 9 drawn 250;person 9 drawn 250;person 9 drawn 250;work 1 1;can 0 0 3;"
                + "can 1 0 2;");
        Check.due("four as likely, two classes", 500, () -> apart.looks(1));
    }

    private static void often() {
        Check.terms("OFTEN: the least number (0 to 1000) of thousandths by which that is no more than TOLD thousandths "
                + "(0, if his CHANCE is 0); none, if 1000 isn't enough.");
        for (int chance : new int[] {0, 1, 2, 199, 200, 333, 500, 998, 999, 1000}) {
            FullHouse x = Check.houseOf("person 5 drawn " + chance + ";");
            for (int told : new int[] {0, 1, 2, 199, 200, 201, 332, 333, 334, 500, 501, 998, 999, 1000}) {
                Check.due("often of " + chance + ", told " + told, leastOften(chance, told), () -> x.often(0, told));
            }
        }
        FullHouse x = Check.houseOf("person 5 drawn 300;person 5;person 5 drawn 700;");
        Check.due("1000 is just enough", 1000, () -> x.often(0, 300));
        Check.due("1000 isn't enough", -1, () -> x.often(0, 299));
        Check.due("0 is enough", 0, () -> x.often(0, 1000));
        Check.due("0 isn't enough", 1, () -> x.often(0, 999));
        Check.due("his chance is 0", 0, () -> x.often(1, 0));
        Check.due("the last one", 1000, () -> x.often(2, 700));

        Check.promise(22, "IllegalArgumentException (behind NoSuchElementException): TOLD is not 0 to 1000.");
        Check.due("0", -1, () -> x.often(0, 0));
        Check.due("-1", Check.ILLEGAL, () -> x.often(0, -1));
        Check.due("1001", Check.ILLEGAL, () -> x.often(0, 1001));
        Check.due("-1, his chance is 0", Check.ILLEGAL, () -> x.often(1, -1));
        Check.due("1001, his chance is 0", Check.ILLEGAL, () -> x.often(1, 1001));
        for (int told : new int[] {-1, 0, 1000, 1001, Integer.MIN_VALUE, Integer.MAX_VALUE}) {
            Check.due("nobody such, " + told, Check.NO_SUCH, () -> x.often(3, told));
            Check.due("nobody below, " + told, Check.NO_SUCH, () -> x.often(-1, told));
        }
        for (int far : Check.FAR) {
            Check.due("often " + far, Check.NO_SUCH, () -> x.often(far, 5));
            if (far != 256) {
                Check.due("told " + far, Check.ILLEGAL, () -> x.often(0, far));
            }
        }
    }

    /** By a division, where the class tries one after the other. */
    private static long leastOften(long chance, long told) {
        if (chance == 0 || told == 1000) {
            return 0;
        }
        long missing = chance * 1000 * (1000 - told);
        long each = told * (1000 - chance);
        long least = each == 0 ? 1001 : (missing + each - 1) / each;
        return least > 1000 ? -1 : least;
    }

    private static void seldom() {
        Check.terms("SELDOM: that one isn't drawn on n days (0 to 5000): 1,000,000,000, each day by (1000 less his "
                + "CHANCE), by 1000, cut down.");
        FullHouse x = Check.houseOf("person 5 drawn 333;person 5 drawn 1;person 5;");
        FullHouse always = Check.houseOf("person 5 drawn 1000;");
        FullHouse mostly = Check.houseOf("person 5 drawn 999;");
        Check.due("no day", 1_000_000_000, () -> x.seldom(0, 0));
        Check.due("one day", 667_000_000, () -> x.seldom(0, 1));
        Check.due("five days", 132_016_790, () -> x.seldom(0, 5));
        Check.due("5000 days, cut down each day", 6_720_607, () -> x.seldom(1, 5000));
        Check.due("chance 0", 1_000_000_000, () -> x.seldom(2, 5000));
        Check.due("chance 1000, no day", 1_000_000_000, () -> always.seldom(0, 0));
        Check.due("chance 1000, one day", 0, () -> always.seldom(0, 1));
        Check.due("chance 999, three days", 1, () -> mostly.seldom(0, 3));
        Check.due("chance 999, four days", 0, () -> mostly.seldom(0, 4));

        Check.promise(23, "IllegalArgumentException (behind NoSuchElementException): n is not as told.");
        Check.due("-1", Check.ILLEGAL, () -> x.seldom(0, -1));
        Check.due("5001", Check.ILLEGAL, () -> x.seldom(0, 5001));
        for (int n : new int[] {-1, 0, 5000, 5001, Integer.MIN_VALUE, Integer.MAX_VALUE}) {
            Check.due("nobody such, " + n, Check.NO_SUCH, () -> x.seldom(3, n));
            Check.due("nobody below, " + n, Check.NO_SUCH, () -> x.seldom(-1, n));
        }
        for (int far : Check.FAR) {
            Check.due("seldom " + far, Check.NO_SUCH, () -> x.seldom(far, 5));
            if (far != 256) {
                Check.due("days " + far, Check.ILLEGAL, () -> x.seldom(0, far));
            }
        }
    }

    private static void draws() {
        Check.terms("A seed becomes itself times 1103515245 and 12345 (an int that wraps); a DRAW of n is its bits 16 "
                + "to 30 MOD n then.");
        for (int seed : SEEDS) {
            for (int week = 0; week < 12; week++) {
                int drawn = draw(seed, week);
                int of = week;
                // just this draw hits the one chance of the second
                FullHouse x = Check.houseOf("person 5 drawn " + drawn + ";person 5 drawn 1;person 5 drawn "
                        + (999 - drawn) + ";");
                x.begin(seed);
                x.on(week + 1);
                Check.due("seed " + seed + " week " + week + " draws " + drawn, 1, () -> x.week(of, 0));
            }
        }

        Check.terms("a DRAW of 1000: the first PERSON by whom CHANCES, together, are above it is away; if there is "
                + "none, nobody.");
        for (int drawn : new int[] {0, 1, 500, 998, 999}) {
            int seed = seedOfDraw(drawn);
            away("person 5 drawn " + drawn + ";", seed, -1);
            away("person 5 drawn " + (drawn + 1) + ";", seed, 0);
            away("person 5 drawn 1000;", seed, 0);
            away("person 5;person 5 drawn " + (drawn + 1) + ";", seed, 1);
            away("person 5 drawn " + drawn + ";person 5 drawn 0;person 5 drawn 1;", seed, 2);
            away("person 5;person 5 drawn " + drawn + ";person 5;person 5;person 5;person 5 drawn 1;", seed, 5);
            away("person 5;", seed, -1);
            away("", seed, -1);
        }
    }

    private static void away(String text, int seed, int who) {
        FullHouse x = Check.houseOf(text);
        x.begin(seed);
        x.on(1);
        Check.due("away of " + text + " by " + seed, who, () -> x.week(0, 0));
    }

    /** Who was away is 0 or nobody, as he is drawn always or never. */
    private static void week(FullHouse x, int week, int... row) {
        boolean drawn = x.count(0) > 0 && x.person(0, 1) == 1000;
        if (drawn || x.count(0) == 0 || x.person(0, 1) == 0) {
            Check.due("week " + week + " away", drawn ? 0 : -1, () -> x.week(week, 0));
        }
        int done = 0;
        for (int w = 0; w < row.length; w++) {
            int what = 10 + w;
            done += row[w] == -1 ? 0 : 1;
            Check.due("week " + week + " work " + w, row[w], () -> x.week(week, what));
        }
        Check.due("week " + week + " done", done, () -> x.week(week, 1));
    }

    private static FullHouse lived(String text, int weeks) {
        FullHouse x = Check.houseOf(text);
        x.begin(0);
        for (int been = 0; been < weeks; been += 50) {
            x.on(Math.min(50, weeks - been));
        }
        Check.due("weeks", weeks, () -> x.count(8));
        return x;
    }

    private static void rows() {
        Check.terms("WORKS are given to those who are LEFT and KNOW them (nobody two at one hour, or more hours than "
                + "his; some may be nobody's)");
        week(lived("person 9 drawn 1000;work 1 1;can 0 0 1;", 1), 0, -1);
        week(lived("person 9 drawn 1000;person 9;work 1 1;can 0 0 1;can 1 0 1;", 1), 0, 1);
        week(lived("person 9;work 1 1;work 2 1;can 0 1 1;", 1), 0, -1, 0);
        week(lived("person 9;work 1 2;work 2 1;work 3 1;" + Houses.canAll(0, 3, 1), 1), 0, 0, -1, 0);
        week(lived("person 2;work 1 1;work 2 1;work 3 1;" + Houses.canAll(0, 3, 1), 1), 0, 0, 0, -1);
        week(lived("person 3;work 1 1;work 2 1;work 3 1;" + Houses.canAll(0, 3, 1), 1), 0, 0, 0, 0);
        week(lived("person 0;work 1 1;can 0 0 1;", 1), 0, -1);
        week(lived("person 0;" + Houses.worksInTurn(8) + Houses.canAll(0, 8, 1), 1), 0, -1, -1, -1, -1, -1, -1, -1, -1);
        week(lived("person 1;" + Houses.worksInTurn(7) + "work 7 2;can 0 7 1;", 1), 0, -1, -1, -1, -1, -1, -1, -1, -1);
        week(lived("person 9;work 1 1;learn 0 0 9 1;", 1), 0, -1);
        week(lived("work 1 1;", 1), 0, -1);
        week(lived("", 1), 0);

        Check.terms("as many WORKS as can be");
        // the first is never done, however long it waits
        FullHouse many = lived("person 2;work 1 2;work 3 1;work 4 1;" + Houses.canAll(0, 3, 1), 200);
        for (int week : new int[] {0, 1, 100, 199}) {
            week(many, week, -1, 0, 0);
        }

        Check.terms("with the most WEEKS together since he who does it did it last (that week, counted from 0, "
                + "less the one of the last time; never: the week and 1)");
        FullHouse turns = lived("person 24;".repeat(6) + Houses.worksInTurn(8) + Houses.canAll(0, 8, 1)
                + Houses.canAll(1, 8, 1) + Houses.canAll(2, 8, 1)
                + Houses.canAll(3, 8, 1) + Houses.canAll(4, 8, 1) + Houses.canAll(5, 8, 1), 200);
        for (int week : new int[] {0, 1, 2, 5, 6, 7, 11, 12, 198, 199}) {
            int who = week % 6;
            week(turns, week, who, who, who, who, who, who, who, who);
        }
        // week 1: never (2) ahead of the last week (1)
        FullHouse two = lived("person 9;person 9;work 1 1;can 0 0 1;can 1 0 1;", 3);
        week(two, 0, 0);
        week(two, 1, 1);
        week(two, 2, 0);

        Check.terms("of like ones the first as a row (nobody comes behind all)");
        FullHouse one = lived("person 1;" + Houses.worksInTurn(8) + Houses.canAll(0, 8, 1), 9);
        for (int week = 0; week < 9; week++) {
            int[] row = {-1, -1, -1, -1, -1, -1, -1, -1};
            row[week % 8] = 0;
            week(one, week, row);
        }
        week(lived("person 1;person 1;work 1 1;work 2 1;" + Houses.canAll(0, 2, 1) + Houses.canAll(1, 2, 1), 1), 0, 0, 1);
        week(lived("person 1;person 1;work 1 1;work 2 1;work 3 1;" + Houses.canAll(0, 3, 1)
                + Houses.canAll(1, 3, 1), 1), 0, 0, 1, -1);
    }

    private static void forgetting() {
        Check.terms("at first each KNOWS WORKS at which his SKILL is above 0");
        FullHouse first = lived("person 1;person 1;" + Houses.worksInTurn(8) + Houses.canAll(0, 8, 1)
                + "can 1 7 9;learn 1 0 1 1;", 0);
        Check.due("all", 255, () -> first.knows(0));
        Check.due("the last", 128, () -> first.knows(1));

        Check.terms("(weeks ahead of week 0: not forgotten by these alone, so none is forgotten ahead of week FORGET "
                + "less 1)");
        for (int forget : new int[] {1, 2, 3, 49, 50}) {
            String text = "person 9 drawn 1000;work 1 1;can 0 0 1;forget " + forget + ";";
            FullHouse before = lived(text, forget - 1);
            Check.due("ahead of week " + (forget - 1), 1, () -> before.knows(0));
            before.on(1);
            Check.due("behind week " + (forget - 1), 0, () -> before.knows(0));
        }

        Check.terms("if FORGET isn't 0");
        FullHouse never = lived("person 9 drawn 1000;work 1 1;can 0 0 1;", 200);
        Check.due("never forgotten", 1, () -> never.knows(0));

        Check.terms("each no more KNOWS a WORK that he has not done in this or the (FORGET less 1) weeks ahead of it");
        for (int forget = 1; forget <= 4; forget++) {
            doneOnce(forget);
        }
        // he does one a week of three, each every third: a week less, and the third is gone
        String three = "person 1;" + Houses.worksInTurn(3) + Houses.canAll(0, 3, 1);
        Check.due("forget 3", 7, () -> lived(three + "forget 3;", 60).knows(0));
        Check.due("forget 2, behind week 0", 7, () -> lived(three + "forget 2;", 1).knows(0));
        Check.due("forget 2, behind week 1", 3, () -> lived(three + "forget 2;", 2).knows(0));
        Check.due("forget 2, for long", 3, () -> lived(three + "forget 2;", 200).knows(0));
        Check.due("forget 1", 1, () -> lived(three + "forget 1;", 1).knows(0));
        FullHouse gone = lived(three + "forget 1;", 3);
        week(gone, 1, 0, -1, -1);
        week(gone, 2, 0, -1, -1);
        Check.due("his skill is told still", 1, () -> gone.skill(0, 2));
        Check.due("he can by what is told", 7, () -> gone.person(0, 2));
        gone.begin(0);
        Check.due("weeks begin anew", 7, () -> gone.knows(0));
    }

    /** There in week 0, then away for as many weeks as it takes to forget. */
    private static void doneOnce(int forget) {
        int seed = 0;
        while (!thereThenAway(seed, forget)) {
            seed++;
        }
        FullHouse x = Check.houseOf("person 9 drawn 500;work 1 1;can 0 0 1;forget " + forget + ";");
        x.begin(seed);
        x.on(1);
        week(x, 0, 0);
        x.on(forget - 1);
        Check.due("done " + (forget - 1) + " weeks ahead", 1, () -> x.knows(0));
        x.on(1);
        Check.due("done " + forget + " weeks ahead", 0, () -> x.knows(0));
        x.on(20);
        Check.due("it doesn't come back", 0, () -> x.knows(0));
    }

    private static boolean thereThenAway(int seed, int weeks) {
        boolean right = draw(seed, 0) >= 500;
        for (int week = 1; week <= weeks; week++) {
            right &= draw(seed, week) < 500;
        }
        return right;
    }

    /** 6 people, 8 works, 200 weeks: one of them is away in most, and all is done by turns. */
    private static void fullHouse() {
        Check.terms("A HOUSE has PEOPLE 0, 1 .. (at most 6)");
        StringBuilder text = new StringBuilder("person 24 drawn 166;".repeat(6) + Houses.worksInTurn(8));
        for (int p = 0; p < 6; p++) {
            text.append(Houses.canAll(p, 8, 1));
        }
        for (String forget : new String[] {"", "forget 1;", "forget 50;"}) {
            FullHouse x = lived(text + forget, 200);
            for (int week = 0; week < 200; week += 11) {
                int of = week;
                int draw = draw(0, week);
                Check.due("away in week " + week, draw / 166 < 6 ? draw / 166 : -1, () -> x.week(of, 0));
            }
            Check.due("done in week 0", 8, () -> x.week(0, 1));
            for (int p = 0; p < 6; p++) {
                int of = p;
                String want = forget.equals("forget 1;") ? "0" : "255";
                Check.due("known by " + p + " with " + forget, want, () -> x.knows(of));
            }
        }
    }

    private static void bounds() {
        Check.promise(25, "So many WEEKS more (0 to 60): how many there were.");
        FullHouse x = Check.houseOf("person 9 drawn 500;work 1 1;can 0 0 1;");
        x.begin(5);
        Check.due("0", 0, () -> x.on(0));
        Check.due("60", 60, () -> x.on(60));
        Check.due("1", 61, () -> x.on(1));
        Check.due("0 again", 61, () -> x.on(0));
        Check.promise(25, "IllegalArgumentException (ahead): how many.");
        FullHouse none = new FullHouse();
        for (FullHouse y : new FullHouse[] {x, none}) {
            Check.due("-1", Check.ILLEGAL, () -> y.on(-1));
            Check.due("61", Check.ILLEGAL, () -> y.on(61));
            for (int far : Check.FAR) {
                Check.due("on " + far, Check.ILLEGAL, () -> y.on(far));
            }
            Check.due("not counted", 0, () -> y.count(7));
        }
        Check.promise(25, "NONE (STATUS 2): they would be more than 200, or none have begun.");
        Check.due("none have begun: 0", -1, () -> none.on(0));
        Check.due("none have begun: 60", -1, () -> none.on(60));
        Check.due("both counted", 2, () -> none.count(7));
        Check.due("121", 121, () -> x.on(60));
        Check.due("141", 141, () -> x.on(20));
        Check.due("201", -1, () -> x.on(60));
        Check.due("none have been", 141, () -> x.count(8));
        Check.due("200", 200, () -> x.on(59));
        Check.due("0 at 200", 200, () -> x.on(0));
        Check.due("201 by 1", -1, () -> x.on(1));
        Check.due("260", -1, () -> x.on(60));
        Check.due("61 at 200", Check.ILLEGAL, () -> x.on(61));
        Check.due("three refused", 3, () -> x.count(7));
        Check.due("200 still", 200, () -> x.count(8));

        Check.promise(24, "WEEKS begin, by a seed, in place of others; the image stays.");
        x.image();
        x.begin(6);
        Check.due("in place of others", 0, () -> x.count(8));
        Check.due("the week of old", Check.NO_SUCH, () -> x.week(0, 0));
        Check.due("there is room again", 60, () -> x.on(60));
        Check.due("the image stays", 1, () -> Check.bit(x.restore()));
        Check.due("200 by the image", 200, () -> x.count(8));
        none.begin(Integer.MIN_VALUE);
        Check.due("weeks of nobody", 60, () -> none.on(60));
        Check.due("nobody was away", -1, () -> none.week(59, 0));
        Check.due("nothing was done", 0, () -> none.week(59, 1));
        Check.due("there was no work", Check.NO_SUCH, () -> none.week(59, 10));
    }

    private static void weeksThatHaveBeen() {
        Check.promise(26, "NoSuchElementException: it hasn't been, another what.");
        FullHouse x = Check.houseOf("person 24;" + Houses.worksInTurn(8) + Houses.canAll(0, 8, 1));
        Check.due("none have begun", Check.NO_SUCH, () -> x.week(0, 0));
        x.begin(1);
        Check.due("none have been", Check.NO_SUCH, () -> x.week(0, 0));
        x.on(2);
        Check.due("the first", -1, () -> x.week(0, 0));
        Check.due("the last", 8, () -> x.week(1, 1));
        Check.due("the one behind it", Check.NO_SUCH, () -> x.week(2, 0));
        Check.due("the one ahead of 0", Check.NO_SUCH, () -> x.week(-1, 0));
        for (int what = -3; what < 22; what++) {
            int of = what;
            String want = what == 0 ? "-1" : what == 1 ? "8" : what >= 10 && what < 18 ? "0" : Check.NO_SUCH;
            Check.due("what " + what, want, () -> x.week(1, of));
            Check.due("what " + what + " of week 2", Check.NO_SUCH, () -> x.week(2, of));
        }
        for (int far : Check.FAR) {
            Check.due("week " + far, Check.NO_SUCH, () -> x.week(far, 0));
            Check.due("what " + far, Check.NO_SUCH, () -> x.week(0, far));
            Check.due("what 10 and " + far, Check.NO_SUCH, () -> x.week(0, 10 + far));
        }
        FullHouse full = lived("person 5 drawn 1000;work 1 1;can 0 0 1;", 200);
        Check.due("week 199", 0, () -> full.week(199, 0));
        Check.due("week 200", Check.NO_SUCH, () -> full.week(200, 0));
        Check.due("nobody did it", -1, () -> full.week(199, 10));
        Check.due("no such work", Check.NO_SUCH, () -> full.week(199, 11));

        Check.promise(27, "NoSuchElementException: also no WEEKS have begun.");
        FullHouse y = Check.houseOf("person 5;person 5;work 1 1;can 1 0 1;");
        Check.due("none have begun", Check.NO_SUCH, () -> y.knows(0));
        Check.due("none have begun, nobody such", Check.NO_SUCH, () -> y.knows(2));
        y.begin(1);
        Check.due("0", 0, () -> y.knows(0));
        Check.due("the last", 1, () -> y.knows(1));
        Check.due("nobody such", Check.NO_SUCH, () -> y.knows(2));
        Check.due("nobody below", Check.NO_SUCH, () -> y.knows(-1));
        for (int far : Check.FAR) {
            Check.due("knows " + far, Check.NO_SUCH, () -> y.knows(far));
        }
        Check.due("a fault changes nothing", 1, () -> {
            Check.feed(y, "X");
            y.house(1);
            return y.knows(1);
        });
        Check.due("a house takes them away", Check.NO_SUCH, () -> {
            Check.feed(y, "person 5;");
            y.house(9);
            return y.knows(0);
        });
    }

    private static String story(FullHouse x, int works) {
        StringBuilder all = new StringBuilder();
        for (int week = 0; week < x.count(8); week++) {
            // an object is good for 512 calls
            if (week >= 10 && week < x.count(8) - 10) {
                continue;
            }
            all.append(week).append(':').append(x.week(week, 0));
            for (int w = 0; w < works; w++) {
                all.append(' ').append(x.week(week, 10 + w));
            }
            all.append('\n');
        }
        for (int p = 0; p < x.count(0); p++) {
            all.append(" knows ").append(x.knows(p));
        }
        return all.toString();
    }

    private static void images() {
        Check.promise(28, "False: none have begun.");
        FullHouse x = Check.houseOf("person 3 drawn 200;person 3 drawn 300;person 4 drawn 300;work 1 2;work 2 2;work 6 1;"
                + Houses.canAll(0, 3, 1) + Houses.canAll(1, 3, 1) + Houses.canAll(2, 2, 1) + "forget 3;");
        Check.due("none have begun", 0, () -> Check.bit(x.image()));
        Check.promise(29, "They are as the image again: true. False: there is none.");
        Check.due("there is none", 0, () -> Check.bit(x.restore()));
        x.begin(8);
        Check.due("there is none, weeks have begun", 0, () -> Check.bit(x.restore()));
        x.on(2);
        Check.due("there is none, weeks have been", 0, () -> Check.bit(x.restore()));
        Check.due("they stay", 2, () -> x.count(8));
        Check.due("nothing was counted", 0, () -> x.count(7));

        Check.promise(28, "WEEKS (all that has been, who KNOWS what, the seed) are kept as an image, in place of "
                + "another one: true.");
        x.begin(9);
        Check.due("of no weeks yet", 1, () -> Check.bit(x.image()));
        x.on(7);
        String seven = story(x, 3);
        x.begin(10);
        x.on(3);
        Check.due("restore", 1, () -> Check.bit(x.restore()));
        Check.due("no weeks", 0, () -> x.count(8));
        x.on(7);
        Check.same("the weeks of its seed", story(x, 3), seven);
        Check.due("in place of another one", 1, () -> Check.bit(x.image()));
        x.on(7);
        String fourteen = story(x, 3);
        x.restore();
        Check.same("all that had been", story(x, 3), seven);
        x.on(7);
        Check.same("the same goes on", story(x, 3), fourteen);
        x.restore();
        Check.same("the image is there still", story(x, 3), seven);
        FullHouse full = lived("person 3 drawn 200;person 3 drawn 300;work 1 2;work 2 2;" + Houses.canAll(0, 2, 1)
                + Houses.canAll(1, 2, 1) + "forget 50;", 200);
        String last = story(full, 2);
        full.image();
        full.begin(3);
        full.on(60);
        full.restore();
        Check.same("of 200 weeks", story(full, 2), last);
        Check.due("there is no room", -1, () -> full.on(1));
        Check.due("counts aren't of the image", 1, () -> full.count(7));
        full.restore();
        Check.due("counts aren't of the image still", 1, () -> full.count(7));
    }

    public static void main(String[] args) throws IOException {
        Check.readDocument(args);
        looks();
        guesses();
        often();
        seldom();
        draws();
        rows();
        forgetting();
        fullHouse();
        bounds();
        weeksThatHaveBeen();
        images();
        Check.allPromises(20, 29);
        Check.end();
    }
}
