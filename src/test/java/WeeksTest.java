/** Promises 20 to 29: the guest, the hand that tells, seldom, and weeks by a seed. */
public final class WeeksTest {
    /** Without 0 they can't; without 1 the second work is done by another skill, without 2 nothing changes. */
    private static final String GUEST = "person 9 drawn 100;person 9 drawn 250;person 9 drawn 150;"
            + "work 1 1;work 2 1;can 0 0 5;can 0 1 2;can 1 1 7;";

    private static void guest() {
        FullHouse x = Check.houseOf(GUEST);
        // seen of 0 away: 0 0, of 1 away: 5 2, of 2 away and of nobody (500): 5 7
        int[] likely = {500, 600, 850, 850};
        for (int set = 0; set < 4; set++) {
            int works = set;
            Check.due("looks " + set, likely[set], () -> x.looks(works));
        }
        int[] best = {0, 2, 3};
        for (int many = 0; many < 3; many++) {
            int of = many;
            Check.due("best " + many, best[many], () -> x.best(of));
        }
        for (int beside : new int[] {4, -1, 7, Integer.MIN_VALUE}) {
            Check.due("looks " + beside, Check.ILLEGAL, () -> x.looks(beside));
            Check.due("best " + (beside | 3), Check.ILLEGAL, () -> x.best(beside | 3));
        }
        FullHouse like = Check.houseOf("person 9 drawn 400;person 9 drawn 600;work 1 1;work 2 1;can 0 0 5;can 0 1 5;"
                + "can 1 0 4;can 1 1 4;");
        Check.due("nobody is never", 1000, () -> like.looks(1));
        Check.due("of like ones the least", 1, () -> like.best(1));
        Check.due("without a look", 600, () -> like.looks(0));
        FullHouse ties = Check.houseOf("person 9 drawn 400;person 9 drawn 400;person 9 drawn 100;work 1 1;can 0 0 5;can 1 0 5;");
        Check.due("of a class one alone counts", 400, () -> ties.looks(0));
        Check.due("of a class one alone counts, with a look", 400, () -> ties.looks(1));
        FullHouse last = Check.houseOf("person 9 drawn 500;");
        Check.due("like nobody", 500, () -> last.looks(0));
        Check.due("no works", 1000, () -> new FullHouse().looks(0));
        Check.due("no works: best", 0, () -> new FullHouse().best(0));
        Check.due("no works: best 1", Check.ILLEGAL, () -> new FullHouse().best(1));
        FullHouse hidden = Check.houseOf("person 9 drawn 300;person 9 drawn 300;work 1 1;can 0 0 5;can 1 0 5;");
        Check.due("who does it isn't seen", 400, () -> hidden.looks(1));
    }

    private static void often() {
        FullHouse x = Check.houseOf("person 9 drawn 200;person 9 drawn 800;person 9;");
        Check.due("often 0 500", 250, () -> x.often(0, 500));
        Check.due("often 0 200", 1000, () -> x.often(0, 200));
        Check.due("often 0 199", -1, () -> x.often(0, 199));
        Check.due("often 0 1000", 0, () -> x.often(0, 1000));
        Check.due("often 0 999", 1, () -> x.often(0, 999));
        Check.due("often 0 0", -1, () -> x.often(0, 0));
        Check.due("often 1 800", 1000, () -> x.often(1, 800));
        Check.due("often 1 801", 994, () -> x.often(1, 801));
        Check.due("no chance", 0, () -> x.often(2, 0));
        Check.due("told too much", Check.ILLEGAL, () -> x.often(2, 1001));
        Check.due("told below 0", Check.ILLEGAL, () -> x.often(0, -1));
        Check.due("no such person comes ahead", Check.NO_SUCH, () -> x.often(3, 1001));
        Check.due("no such person", Check.NO_SUCH, () -> x.often(-1, 5));
        FullHouse always = Check.houseOf("person 9 drawn 1000;");
        Check.due("always away: 1000", 0, () -> always.often(0, 1000));
        Check.due("always away: 999", -1, () -> always.often(0, 999));
    }

    private static void seldom() {
        FullHouse x = Check.houseOf("person 9 drawn 250;person 9 drawn 1;person 9;");
        Check.due("no day", 1_000_000_000, () -> x.seldom(0, 0));
        Check.due("one day", 750_000_000, () -> x.seldom(0, 1));
        Check.due("cut down each day", 56_313_513, () -> x.seldom(0, 10));
        Check.due("never any more", 0, () -> x.seldom(0, 5000));
        Check.due("999 of 1000 each day", 998_001_000, () -> x.seldom(1, 2));
        Check.due("no chance", 1_000_000_000, () -> x.seldom(2, 5000));
        Check.due("more days", Check.ILLEGAL, () -> x.seldom(0, 5001));
        Check.due("days below 0", Check.ILLEGAL, () -> x.seldom(0, -1));
        Check.due("no such person comes ahead", Check.NO_SUCH, () -> x.seldom(3, 5001));
        Check.due("no such person", Check.NO_SUCH, () -> x.seldom(-1, 1));
        FullHouse always = Check.houseOf("person 9 drawn 1000;");
        Check.due("always drawn", 0, () -> always.seldom(0, 1));
    }

    private static void week(FullHouse x, int week, int away, int... row) {
        Check.due("week " + week + " away", away, () -> x.week(week, 0));
        int done = 0;
        for (int w = 0; w < row.length; w++) {
            int what = 10 + w;
            done += row[w] == FullHouse.NONE ? 0 : 1;
            Check.due("week " + week + " work " + w, row[w], () -> x.week(week, what));
        }
        Check.due("week " + week + " done", done, () -> x.week(week, 1));
    }

    /** Draws of seed 1 are 838, 758, 113, 515, 51 (1103527590 >> 16 is 16838, and so on). */
    private static void draws() {
        FullHouse x = Check.houseOf("person 9 drawn 113;person 9 drawn 1;person 9 drawn 644;person 9 drawn 80;"
                + "work 1 1;can 3 0 1;");
        x.begin(1);
        Check.due("five weeks", 5, () -> x.on(5));
        week(x, 0, -1, 3);
        week(x, 1, 3, -1);
        week(x, 2, 1, 3);
        week(x, 3, 2, 3);
        week(x, 4, 0, 3);
    }

    private static void turns() {
        FullHouse x = Check.houseOf("person 9;person 9;work 1 1;work 1 1;work 3 1;can 0 0 1;can 0 1 9;can 1 0 9;can 1 1 1;can 1 2 1;");
        x.begin(77);
        Check.due("three weeks", 3, () -> x.on(3));
        // skills count for nothing: they take turns, of like rows the first
        week(x, 0, -1, 0, 1, 1);
        week(x, 1, -1, 1, 0, 1);
        week(x, 2, -1, 0, 1, 1);
        FullHouse hours = Check.houseOf("person 2;work 1 2;work 3 1;work 5 1;can 0 0 1;can 0 1 1;can 0 2 1;");
        hours.begin(0);
        hours.on(1);
        week(hours, 0, -1, -1, 0, 0);
        FullHouse one = Check.houseOf("person 1;work 1 1;work 3 1;work 5 2;can 0 0 1;can 0 1 1;can 0 2 1;");
        one.begin(0);
        one.on(3);
        // nobody comes behind all; then what has waited longest
        week(one, 0, -1, 0, -1, -1);
        week(one, 1, -1, -1, 0, -1);
        week(one, 2, -1, 0, -1, -1);
    }

    private static void forgetting() {
        String works = "person 1;work 1 1;work 3 1;work 5 1;can 0 0 1;can 0 1 1;can 0 2 1;";
        int[] known = {7, 7, 7, 7};
        knowledge(works, known);
        knowledge(works + "forget 3;", known);
        knowledge(works + "forget 2;", new int[] {7, 3, 3, 3});
        knowledge(works + "forget 1;", new int[] {1, 1, 1, 1});
        knowledge(works + "forget 4;", known);
        FullHouse away = Check.houseOf("person 1 drawn 1000;work 1 1;can 0 0 1;forget 2;");
        away.begin(5);
        away.on(1);
        Check.due("not forgotten ahead of week 1", 1, () -> away.knows(0));
        away.on(1);
        Check.due("forgotten while away", 0, () -> away.knows(0));
        Check.due("he could do it at first", 1, () -> away.person(0, 2));
        away.begin(5);
        Check.due("known again", 1, () -> away.knows(0));
    }

    private static void knowledge(String text, int[] known) {
        FullHouse x = Check.houseOf(text);
        Check.due("knows without weeks", Check.NO_SUCH, () -> x.knows(0));
        x.begin(3);
        Check.due("knows at first", 7, () -> x.knows(0));
        for (int i = 0; i < known.length; i++) {
            x.on(1);
            Check.due("knows behind week " + i + " of " + text, known[i], () -> x.knows(0));
        }
        Check.due("knows 1", Check.NO_SUCH, () -> x.knows(1));
        Check.due("knows -1", Check.NO_SUCH, () -> x.knows(-1));
    }

    private static void bounds() {
        FullHouse x = Check.houseOf(GUEST);
        Check.due("none have begun", -1, () -> x.on(0));
        Check.due("on(61) ahead", Check.ILLEGAL, () -> x.on(61));
        Check.due("on(-1) ahead", Check.ILLEGAL, () -> x.on(-1));
        Check.due("one refused", 1, () -> x.count(7));
        Check.due("no image", 0, () -> Check.bit(x.image()));
        Check.due("no restore", 0, () -> Check.bit(x.restore()));
        x.begin(-5);
        Check.due("begun, none have been", 0, () -> x.on(0));
        Check.due("week 0 hasn't been", Check.NO_SUCH, () -> x.week(0, 0));
        for (int i = 1; i <= 3; i++) {
            int been = 60 * i;
            Check.due("on(60) " + i, been, () -> x.on(60));
        }
        Check.due("more than 200", -1, () -> x.on(21));
        Check.due("more than 200: none have been", 180, () -> x.count(8));
        Check.due("just 200", 200, () -> x.on(20));
        Check.due("none more", 200, () -> x.on(0));
        Check.due("201", -1, () -> x.on(1));
        Check.due("refused", 3, () -> x.count(7));
        Check.due("the last week", 0, () -> x.week(199, 0) < -1 ? 1 : 0);
        for (int[] pair : new int[][] {{200, 0}, {-1, 0}, {0, 2}, {0, -1}, {0, 9}, {0, 12}, {0, Integer.MIN_VALUE}}) {
            Check.due("week " + pair[0] + " " + pair[1], Check.NO_SUCH, () -> x.week(pair[0], pair[1]));
        }
        x.begin(-5);
        Check.due("in place of others", 0, () -> x.count(8));
        Check.due("in place of others: week", Check.NO_SUCH, () -> x.week(0, 0));
    }

    private static String allOf(FullHouse x, int works) {
        StringBuilder all = new StringBuilder();
        for (int week = 0; week < x.count(8); week++) {
            all.append(x.week(week, 0)).append(':');
            for (int w = 0; w < works; w++) {
                all.append(x.week(week, 10 + w)).append(' ');
            }
        }
        for (int p = 0; p < x.count(0); p++) {
            all.append('k').append(x.knows(p));
        }
        return all.toString();
    }

    private static void images() {
        FullHouse x = Check.houseOf("person 4 drawn 300;person 4 drawn 300;person 4 drawn 300;work 1 2;work 2 2;work 5 2;"
                + "can 0 0 1;can 0 1 1;can 0 2 1;can 1 0 1;can 1 1 1;can 2 2 1;can 2 1 1;forget 4;");
        x.begin(42);
        x.on(2);
        String two = allOf(x, 3);
        Check.due("image", 1, () -> Check.bit(x.image()));
        x.on(30);
        String all = allOf(x, 3);
        Check.due("restore", 1, () -> Check.bit(x.restore()));
        Check.same("as the image", allOf(x, 3), two);
        x.on(30);
        Check.same("the same weeks behind it", allOf(x, 3), all);
        x.begin(7);
        x.on(9);
        Check.due("behind a begin the image is there", 1, () -> Check.bit(x.restore()));
        Check.same("as the image again", allOf(x, 3), two);
        x.on(30);
        Check.same("the same weeks again", allOf(x, 3), all);
        Check.due("another image", 1, () -> Check.bit(x.image()));
        x.begin(7);
        x.restore();
        Check.same("in place of the first one", allOf(x, 3), all);
        x.begin(1);
        Check.due("an image of no weeks", 1, () -> Check.bit(x.image()));
        x.on(3);
        x.restore();
        Check.due("none have been", 0, () -> x.count(8));
        Check.due("but they have begun", 1, () -> x.on(1));
    }

    public static void main(String[] args) {
        guest();
        often();
        seldom();
        draws();
        turns();
        forgetting();
        bounds();
        images();
        Check.end();
    }
}
