import java.io.IOException;

/** The sentences that name no boundary case, in the document's order, by ordinary inputs worked by hand. */
public final class SentencesTest {
    /** Each row of numbers is unlike the others, so that one in place of another shows. */
    private static final String PLAIN = "person 11 drawn 120;person 7 drawn 30;person 19;work 2 3;work 9 1;work 14 5;work 22 2;"
            + "can 0 0 8;can 2 0 1;can 1 1 6;can 2 1 4;can 2 2 2;can 0 3 5;can 1 3 3;"
            + "learn 1 0 7 45;learn 0 2 9 81;forget 13;";

    private static void grammar() {
        Check.terms("In quotes is what stands there, [ ] perhaps, * any number of times, | one of some.");
        Check.fine("");
        Check.fine("person 3;");
        Check.fine("person 3 drawn 4;");
        Check.faultAt("person 3 drawn 4 ^drawn 4;", 1);
        Check.faultAt("^'person' 3;", 1);
        Check.faultAt("person 3 ^[drawn 4];", 1);
        Check.faultAt("person 3;^*", 1);
        Check.faultAt("person 3 ^| work 1 1;", 1);
        Check.fine("forget 3;work 1 1;person 5;work 2 1;person 5;can 1 0 1;work 3 1;learn 0 2 1 1;can 1 2 4;");
        Check.fine(("person 3;work 1 1;" + "\n").repeat(6));

        Check.terms("| 'can' PERSON WORK SKILL | 'learn' PERSON WORK SKILL PAINS | 'forget' NUMBER) ';', all in capitals "
                + "being NUMBERS");
        String ahead = "person 1;person 2;person 3;work 1 1;work 5 2;";
        FullHouse x = Check.houseOf(ahead + "can 2 1 7;learn 1 0 4 33;forget 12;");
        Check.due("can", 7, () -> x.skill(2, 1));
        int[] teaching = {1, 0, 4, 33};
        for (int what = 0; what < teaching.length; what++) {
            int of = what;
            Check.due("learn " + what, teaching[what], () -> x.teaching(0, of));
        }
        Check.due("forget", 12, () -> x.count(3));
        for (String line : new String[] {"can 2 1 7", "learn 1 0 4 33", "forget 12"}) {
            String[] tokens = line.split(" ");
            String begun = ahead + tokens[0];
            for (int i = 1; i < tokens.length; i++) {
                Check.faultAt(begun + " ^;", 1);
                Check.faultAt(begun + " ^work;", 1);
                Check.faultAt(begun + " ^PERSON;", 1);
                Check.faultAt(begun + " ^", 1);
                begun += " " + tokens[i];
            }
            Check.faultAt(begun + " ^5;", 1);
            Check.faultAt(begun + " ^drawn 5;", 1);
            Check.faultAt(begun + "^", 1);
            Check.faultAt(begun + "^:", 1);
            Check.fine(begun + ";");
        }
    }

    private static void tooMuch() {
        Check.terms("2 one that can, but is too much:");
        Check.faultAt("work 1 1 ^99999;", 1);
        Check.faultAt("^25 person;", 1);
        Check.faultAt("person ^99999 drawn 3;", 2);
        Check.faultAt("person 5;".repeat(6) + "^person 5;", 2);
        Check.faultAt("person 5;".repeat(6) + "^persons 5;", 1);

        Check.terms("or not as told");
        for (String line : new String[] {"person ^25;", "person 5 drawn ^1001;", "work ^24 1;", "work 3 ^0;", "work 3 ^9;",
            "work 20 ^5;", "can 0 0 ^0;", "can 0 0 ^10;", "learn 0 0 ^0 5;", "learn 0 0 ^10 5;", "learn 0 0 5 ^0;",
            "learn 0 0 5 ^100;", "forget ^0;", "forget ^51;"}) {
            Check.faultAt("person 5;work 3 4;" + line, 2);
        }
    }

    private static void days() {
        Check.terms("A DAY: some are LEFT (bits).");
        FullHouse x = Check.houseOf("person 9;person 9;person 9;work 4 1;can 0 0 3;can 1 0 5;can 2 0 7;");
        int[] skills = {-1, 3, 5, 5, 7, 7, 7, 7};
        for (int left = 0; left < skills.length; left++) {
            int of = left;
            Check.due("left " + left, skills[left], () -> x.day(of));
        }

        Check.terms("A TOLD ROW (of each WORK a PERSON, or nobody) with some LEFT is JUDGED by WORKS, from 0 on: the first of "
                + "which 1 it is nobody's,");
        FullHouse told = Check.houseOf(PLAIN);
        int[] doers = {0, 1, 2, 0};
        for (int work = 0; work < doers.length; work++) {
            int of = work;
            Check.due("the first that is nobody's: " + work, 10 * work + 1, () -> told.judge(7));
            Check.due("tell " + work, 1, () -> Check.bit(told.tell(of, doers[of])));
        }
        Check.due("all are somebody's", -1, () -> told.judge(7));
        for (int work = doers.length - 1; work >= 0; work--) {
            int of = work;
            Check.due("nobody " + work, 1, () -> Check.bit(told.tell(of, FullHouse.NONE)));
            Check.due("nobody's again, the first: " + work, 10 * work + 1, () -> told.judge(7));
        }
    }

    private static void guest() {
        // seen of nobody away and of 2 away: 5 9; of 0 away: 5 3; of 1 away: 1 9
        FullHouse x = Check.houseOf("person 9 drawn 100;person 9 drawn 200;person 9 drawn 300;work 4 1;work 6 1;"
                + "can 1 0 5;can 0 1 9;can 2 0 1;can 2 1 3;");
        Check.terms("THE GUEST knows all that is told, THE BEST ROW of nobody away and of each one away (who are away alone; "
                + "what can't be done is seen so)");
        Check.due("the first tells 1", 600, () -> x.looks(1));
        Check.due("the second tells 0", 500, () -> x.looks(2));
        Check.due("both tell 0 and 1", 700, () -> x.looks(3));
        FullHouse lost = Check.houseOf("person 9 drawn 100;person 9 drawn 200;person 9 drawn 300;work 4 1;work 6 1;"
                + "can 1 0 5;can 0 1 9;can 2 0 1;");
        Check.due("without 0 the first isn't done either: it tells 0 and 1", 700, () -> lost.looks(1));
        Check.due("the second tells 0", 500, () -> lost.looks(2));

        Check.terms("He guesses the one away (or nobody) who is likeliest by CHANCES (nobody: 1000 less all CHANCES) among those "
                + "of whom he would see the same;");
        FullHouse busy = Check.houseOf("person 9 drawn 150;person 9 drawn 250;person 9 drawn 350;work 4 1;work 6 1;"
                + "can 1 0 5;can 0 1 9;can 2 0 1;can 2 1 3;");
        Check.due("2 of all, who is likelier than nobody (250)", 350, () -> busy.looks(0));
        Check.due("2 among 0, 2 and nobody, else 1", 600, () -> busy.looks(1));
        Check.due("2 among 1, 2 and nobody, else 0", 500, () -> busy.looks(2));
        Check.due("2 among 2 and nobody, else 0 or 1", 750, () -> busy.looks(3));

        Check.promise(20, "By looking at some WORKS (bits): how likely THE GUEST is right.");
        int[] likely = {400, 600, 500, 700};
        for (int works = 0; works < likely.length; works++) {
            int of = works;
            Check.due("looks " + works, likely[works], () -> x.looks(of));
        }
        Check.promise(21, "BEST LOOKS of so many WORKS, as bits.");
        int[] best = {0, 1, 3};
        for (int many = 0; many < best.length; many++) {
            int of = many;
            Check.due("best " + many, best[many], () -> x.best(of));
        }
        Check.due("the second, if it tells more", 2, () -> Check.houseOf("person 9 drawn 200;person 9 drawn 100;person 9 drawn 300;"
                + "work 4 1;work 6 1;can 1 0 5;can 0 1 9;can 2 0 1;can 2 1 3;").best(1));
    }

    private static void hand() {
        Check.terms("A HAND THAT TELLS: a WORK is always done by one as long as he is there, but so often (in thousandths of days "
                + "on which he is there), when another one does it; another's hand, seen, tells that he is away by a fraction: its "
                + "upper part is his CHANCE times 1000, its lower part that and (1000 less his CHANCE) times so often.");
        FullHouse x = Check.houseOf("person 9 drawn 100;person 9 drawn 400;person 9 drawn 500;");
        // 100000 of 100000 + 900 * 899 = 909100 is 0.109998.., with 898 it is 0.110108..
        Check.due("100, told 110", 899, () -> x.often(0, 110));
        // 400000 of 400000 + 600 * 667 = 800200 is 0.49987.., with 666 it is 0.50025..
        Check.due("400, told 500", 667, () -> x.often(1, 500));
        // 500000 of 500000 + 500 * 250 = 625000 is 0.8
        Check.due("500, told 800", 250, () -> x.often(2, 800));
        Check.promise(22, "OFTEN; NONE: none.");
        Check.due("500, told 500", 1000, () -> x.often(2, 500));
        Check.due("500, told 499", -1, () -> x.often(2, 499));
        Check.promise(23, "SELDOM.");
        Check.due("100, three days", 729_000_000, () -> x.seldom(0, 3));
        Check.due("400, three days", 216_000_000, () -> x.seldom(1, 3));
        Check.due("500, ten days", 976_562, () -> x.seldom(2, 10));
    }

    private static void weeks() {
        Check.terms("WEEKS by a seed:");
        FullHouse x = Check.houseOf(PLAIN);
        FullHouse y = Check.houseOf(PLAIN);
        x.begin(1);
        y.begin(1);
        x.on(40);
        y.on(25);
        y.on(15);
        boolean other = false;
        FullHouse z = Check.houseOf(PLAIN);
        z.begin(2);
        z.on(40);
        for (int week = 0; week < 40; week++) {
            for (int what : new int[] {0, 1, 10, 11, 12, 13}) {
                int of = week;
                Check.due("week " + week + " " + what, x.week(week, what), () -> y.week(of, what));
                other |= x.week(week, what) != z.week(week, what);
            }
        }
        boolean differs = other;
        Check.due("another seed, other weeks", 1, () -> Check.bit(differs));

        // draws of seed 1: 838, 758, 113, 515, 51; 0 is away below 120, 1 below 150; they take turns
        Check.promise(26, "Of a week (0 on) that has been: who was away (what 0; NONE: nobody), how many WORKS were done (1), who "
                + "did a WORK (10 and the WORK; NONE).");
        week(x, 0, -1, 0, 1, 2, 0);
        week(x, 1, -1, 2, 2, 2, 1);
        week(x, 2, 0, 2, 1, 2, 1);
        week(x, 3, -1, 0, 2, 2, 0);
        week(x, 4, 0, 2, 1, 2, 1);

        Check.promise(27, "WORKS that a PERSON KNOWS now, as bits.");
        FullHouse one = Check.houseOf("person 1;person 1;work 1 1;work 3 1;work 5 1;can 0 0 1;can 0 2 1;can 1 1 1;forget 2;");
        one.begin(9);
        Check.due("0 at first", 5, () -> one.knows(0));
        Check.due("1 at first", 2, () -> one.knows(1));
        one.on(2);
        // one hour a day: 0 does works 0 and 2 in turn, so that each is done in one of two weeks
        week(one, 0, -1, 0, 1, -1);
        week(one, 1, -1, -1, 1, 0);
        Check.due("0 behind two weeks", 5, () -> one.knows(0));
        Check.due("1 behind two weeks", 2, () -> one.knows(1));
        FullHouse soon = Check.houseOf("person 1;person 1;work 1 1;work 3 1;work 5 1;can 0 0 1;can 0 2 1;can 1 1 1;forget 1;");
        soon.begin(9);
        soon.on(1);
        Check.due("0 behind one week, forgetting at once", 1, () -> soon.knows(0));
        Check.due("1 behind one week, forgetting at once", 2, () -> soon.knows(1));
    }

    private static void week(FullHouse x, int week, int away, int... row) {
        Check.due("week " + week + ", away", away, () -> x.week(week, 0));
        int done = 0;
        for (int work = 0; work < row.length; work++) {
            int what = 10 + work;
            done += row[work] == FullHouse.NONE ? 0 : 1;
            Check.due("week " + week + ", work " + work, row[work], () -> x.week(week, what));
        }
        Check.due("week " + week + ", done", done, () -> x.week(week, 1));
    }

    private static void status() {
        Check.terms("STATUS: how many calls were refused: 0 of TEXTS with a FAULT, 1 of what is TOLD in a ROW, 2 WEEKS that can't "
                + "be.");
        FullHouse x = new FullHouse();
        for (int i = 0; i < 3; i++) {
            Check.feed(x, "person 99;");
            x.house(10);
        }
        for (int i = 0; i < 5; i++) {
            x.tell(0, 0);
        }
        for (int i = 0; i < 7; i++) {
            x.on(1);
        }
        Check.due("texts", 3, () -> x.count(5));
        Check.due("told", 5, () -> x.count(6));
        Check.due("weeks", 7, () -> x.count(7));
        x.image();
        x.restore();
        Check.due("images aren't weeks that can't be", 7, () -> x.count(7));
    }

    private static void told() {
        FullHouse x = Check.houseOf(PLAIN);
        Check.promise(5, "0 PEOPLE, 1 WORKS, 2 TEACHINGS, 3 FORGET, 4 bytes of the tape,");
        Check.feed(x, "x".repeat(55));
        int[] counts = {3, 4, 2, 13, 60};
        for (int what = 0; what < counts.length; what++) {
            int of = what;
            Check.due("count " + what, counts[what], () -> x.count(of));
        }
        Check.promise(7, "Of a WORK: 0 HOUR, 1 LONG, 2 who can do it (bits).");
        int[][] works = {{2, 3, 5}, {9, 1, 6}, {14, 5, 4}, {22, 2, 3}};
        for (int work = 0; work < works.length; work++) {
            for (int what = 0; what < 3; what++) {
                int of = work;
                int which = what;
                Check.due("work " + work + " " + what, works[work][what], () -> x.work(of, which));
            }
        }
        Check.promise(9, "Of a TEACHING: 0 PERSON, 1 WORK, 2 SKILL, 3 PAINS.");
        int[][] teachings = {{1, 0, 7, 45}, {0, 2, 9, 81}};
        for (int teaching = 0; teaching < teachings.length; teaching++) {
            for (int what = 0; what < 4; what++) {
                int of = teaching;
                int which = what;
                Check.due("teaching " + teaching + " " + what, teachings[teaching][what], () -> x.teaching(of, which));
            }
        }
    }

    private static void rows() {
        FullHouse x = Check.houseOf(PLAIN);
        Check.promise(11, "Who does a WORK in the ROW that is kept.");
        int[][] doers = {{0, 1, 2, 0}, {2, 1, 2, 1}, {0, 2, 2, 0}};
        int[] lefts = {7, 6, 5};
        int[] skills = {21, 12, 19};
        for (int i = 0; i < lefts.length; i++) {
            int left = lefts[i];
            Check.due("day " + left, skills[i], () -> x.day(left));
            for (int work = 0; work < 4; work++) {
                int of = work;
                Check.due("does " + work + " of " + left, doers[i][work], () -> x.does(of));
            }
        }
        Check.promise(15, "The TOLD ROW JUDGED with some LEFT:");
        for (int work = 0; work < 4; work++) {
            x.tell(work, doers[0][work]);
        }
        int[] judged = {2, 12, 2, 22, 2, 12, 2, -1};
        for (int left = 0; left < judged.length; left++) {
            int of = left;
            Check.due("judged with " + left, judged[left], () -> x.judge(of));
        }
        Check.promise(19, "WORTH: the upper part (what 0), the lower part (1).");
        // MOST of 0, 1, 2 alone: 2, 2, 3; of 0 and 1: 3; of 0 and 2, of 1 and 2, of all: 4
        int[][] worths = {{1, 1}, {1, 1}, {2, 1}};
        for (int person = 0; person < 3; person++) {
            for (int what = 0; what < 2; what++) {
                int of = person;
                int which = what;
                Check.due("worth " + person + " " + what, worths[person][what], () -> x.worth(of, which));
            }
        }
    }

    public static void main(String[] args) throws IOException {
        Check.readDocument(args);
        grammar();
        tooMuch();
        days();
        guest();
        hand();
        weeks();
        status();
        told();
        rows();
        Check.end();
    }
}
