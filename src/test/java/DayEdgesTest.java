import java.io.IOException;

/** ==== 2 and 3 and promises 10 to 19: for each sentence that names a boundary case a test of its own. */
public final class DayEdgesTest {
    private static void row(FullHouse x, int... people) {
        for (int w = 0; w < people.length; w++) {
            int work = w;
            Check.due("who does " + w, people[w], () -> x.does(work));
        }
    }

    private static void tellAll(FullHouse x, int... people) {
        for (int w = 0; w < people.length; w++) {
            int work = w;
            Check.due("tell " + w, 1, () -> Check.bit(x.tell(work, people[work])));
        }
    }

    private static void lefts() {
        Check.promise(10, "IllegalArgumentException: bits of PEOPLE that there aren't (as everywhere).");
        for (int people = 0; people <= 6; people++) {
            FullHouse x = Check.houseOf("person 5;".repeat(people));
            int all = (1 << people) - 1;
            lefts(x, all, true);
            lefts(x, 0, true);
            lefts(x, all + 1, false);
            lefts(x, 2 * all + 1, false);
            lefts(x, -1, false);
            for (int far : Check.FAR) {
                lefts(x, far, false);
            }
        }
        FullHouse six = Check.houseOf("person 5;".repeat(6));
        for (int bit = 6; bit < 32; bit++) {
            lefts(six, 63 | 1 << bit, false);
        }
    }

    private static void lefts(FullHouse x, int left, boolean fine) {
        Check.due("day " + left, fine ? "0" : Check.ILLEGAL, () -> x.day(left));
        Check.due("most " + left, fine ? "0" : Check.ILLEGAL, () -> x.most(left));
        Check.due("bars " + left, fine ? "-1" : Check.ILLEGAL, () -> x.bars(left));
        Check.due("judge " + left, fine ? "-1" : Check.ILLEGAL, () -> x.judge(left));
    }

    private static void hours() {
        Check.terms("nobody has two WORKS at one hour");
        int[] begins = {0, 1, 7, 8, 15, 16, 22, 23};
        for (int a : begins) {
            for (int b : begins) {
                for (int aLong = 1; aLong <= Math.min(8, 24 - a); aLong++) {
                    for (int bLong = 1; bLong <= Math.min(8, 24 - b); bLong += 2) {
                        boolean apart = a + aLong <= b || b + bLong <= a;
                        FullHouse x = Check.houseOf("person 24;work " + a + " " + aLong + ";work " + b + " " + bLong
                                + ";can 0 0 1;can 0 1 1;");
                        Check.due("day of " + a + "+" + aLong + " " + b + "+" + bLong, apart ? 2 : -1, () -> x.day(1));
                        Check.due("most", apart ? 2 : 1, () -> x.most(1));
                        Check.due("bars", apart ? -1 : 3, () -> x.bars(1));
                        tellAll(x, 0, 0);
                        Check.due("judge", apart ? -1 : 14, () -> x.judge(1));
                    }
                }
            }
        }

        Check.terms("or more hours in all than his");
        for (int[] longs : new int[][] {{1, 1, 1}, {1, 2, 3}, {8, 1, 1}, {8, 8, 7}, {8, 8, 8}}) {
            int sum = longs[0] + longs[1] + longs[2];
            for (int his = sum - 1; his <= Math.min(24, sum + 1); his++) {
                boolean enough = his >= sum;
                FullHouse x = Check.houseOf("person " + his + ";work 0 " + longs[0] + ";work 8 " + longs[1] + ";work 16 "
                        + longs[2] + ";" + Houses.canAll(0, 3, 1));
                Check.due(his + " hours of " + sum + ": day", enough ? 3 : -1, () -> x.day(1));
                Check.due(his + " hours of " + sum + ": most", enough ? 3 : 2, () -> x.most(1));
                Check.due(his + " hours of " + sum + ": bars", enough ? -1 : 7, () -> x.bars(1));
                tellAll(x, 0, 0, 0);
                Check.due(his + " hours of " + sum + ": judge", enough ? -1 : 25, () -> x.judge(1));
            }
        }
        FullHouse idle = Check.houseOf("person 0;work 3 1;can 0 0 9;");
        Check.due("no hours: day", -1, () -> idle.day(1));
        Check.due("no hours: most", 0, () -> idle.most(1));
        Check.due("no hours: bars", 1, () -> idle.bars(1));
    }

    private static void days() {
        Check.terms("A ROW gives each WORK one of them whose SKILL there is above 0");
        Check.due("skill 1", 1, () -> Check.houseOf("person 1;work 1 1;can 0 0 1;").day(1));
        Check.due("skill 0", -1, () -> Check.houseOf("person 1;work 1 1;").day(1));
        Check.due("he may only learn it", -1, () -> Check.houseOf("person 1;work 1 1;learn 0 0 9 1;").day(1));
        Check.due("he isn't left", -1, () -> Check.houseOf("person 1;person 1;work 1 1;can 0 0 1;").day(2));
        Check.due("nobody", -1, () -> Check.houseOf("work 1 1;").day(0));

        Check.terms("LEFT CAN, if there is such a ROW");
        Check.due("no works, nobody", 0, () -> new FullHouse().day(0));
        Check.due("no works, nobody left", 0, () -> Check.houseOf("person 5;").day(0));
        Check.due("no works, one left", 0, () -> Check.houseOf("person 0;").day(1));

        Check.terms("THE BEST ROW is that of which all SKILLS together are most");
        FullHouse best = Check.houseOf("person 1;person 1;work 1 1;work 2 1;can 0 0 9;can 0 1 8;can 1 0 7;can 1 1 1;");
        Check.due("not the greatest first", 15, () -> best.day(3));
        row(best, 1, 0);
        FullHouse full = Check.houseOf("person 24;".repeat(6) + Houses.worksInTurn(8) + Houses.canAll(5, 8, 9)
                + Houses.canAll(4, 8, 8));
        Check.due("eight by 9", 72, () -> full.day(63));
        row(full, 5, 5, 5, 5, 5, 5, 5, 5);
        Check.due("eight by 8", 64, () -> full.day(16));

        Check.terms("of like ones the first as a row of PEOPLE by WORKS");
        FullHouse like = Check.houseOf("person 1;person 1;work 1 1;work 2 1;can 0 0 3;can 0 1 5;can 1 0 5;can 1 1 7;");
        Check.due("like ones", 10, () -> like.day(3));
        row(like, 0, 1);
        FullHouse last = Check.houseOf("person 24;".repeat(6) + Houses.worksInTurn(8) + Houses.canAll(3, 7, 2)
                + Houses.canAll(5, 8, 2)
                + "can 4 7 2;");
        Check.due("the last work decides", 16, () -> last.day(63));
        row(last, 3, 3, 3, 3, 3, 3, 3, 4);
        Check.due("and without 4", 16, () -> last.day(47));
        row(last, 3, 3, 3, 3, 3, 3, 3, 5);
        // a first work by 0 leaves the second to the last one, yet the row comes first
        FullHouse far = Check.houseOf("person 1;person 1;person 1;work 1 1;work 2 1;can 0 0 2;can 0 1 2;can 1 0 2;can "
                + "2 1 2;");
        Check.due("the first work goes ahead", 4, () -> far.day(7));
        row(far, 0, 2);
    }

    private static void keptRows() {
        String text = "person 1;person 1;work 1 1;work 2 1;can 0 0 3;can 0 1 5;can 1 0 5;can 1 1 8;";
        Check.promise(10, "All SKILLS of THE BEST ROW of those LEFT (it is kept); NONE: they can't (what is kept stays).");
        FullHouse x = Check.houseOf(text + "person 2;can 2 0 9;can 2 1 9;");
        Check.due("two can", 11, () -> x.day(3));
        row(x, 0, 1);
        Check.due("one can't", -1, () -> x.day(1));
        row(x, 0, 1);
        Check.due("nobody can't", -1, () -> x.day(0));
        row(x, 0, 1);
        Check.due("bits that there aren't", Check.ILLEGAL, () -> x.day(8));
        row(x, 0, 1);
        Check.due("the third alone", 18, () -> x.day(4));
        row(x, 2, 2);
        x.looks(3);
        x.most(3);
        x.learn(true, 0);
        x.begin(1);
        x.on(2);
        row(x, 2, 2);

        Check.promise(11, "NoSuchElementException: also none is kept.");
        FullHouse y = Check.houseOf(text);
        Check.due("none is kept yet", Check.NO_SUCH, () -> y.does(0));
        Check.due("they can't", -1, () -> y.day(1));
        Check.due("none is kept still", Check.NO_SUCH, () -> y.does(0));
        Check.due("no such work, none kept", Check.NO_SUCH, () -> y.does(2));
        Check.due("they can", 11, () -> y.day(3));
        Check.due("the last work", 1, () -> y.does(1));
        Check.due("no such work", Check.NO_SUCH, () -> y.does(2));
        Check.due("below", Check.NO_SUCH, () -> y.does(-1));
        for (int far : Check.FAR) {
            Check.due("does " + far, Check.NO_SUCH, () -> y.does(far));
        }
        FullHouse none = Check.houseOf("person 5;");
        Check.due("a row of no works", 0, () -> none.day(1));
        Check.due("has no work", Check.NO_SUCH, () -> none.does(0));
    }

    private static void mostAndBars() {
        Check.promise(12, "MOST.");
        Check.terms("MOST: of ROWS in which some WORKS may be nobody's the greatest number of WORKS that are somebody's.");
        FullHouse x = Check.houseOf("person 8;person 7;person 0;" + Houses.worksInTurn(8) + Houses.canAll(0, 8, 1)
                + Houses.canAll(1, 8, 1)
                + Houses.canAll(2, 8, 9));
        int[] mosts = {0, 8, 7, 8, 0, 8, 7, 8};
        for (int left = 0; left < 8; left++) {
            int of = left;
            Check.due("most " + left, mosts[left], () -> x.most(of));
        }
        FullHouse many = Check.houseOf("person 8;work 0 8;work 8 1;work 9 1;work 10 1;can 0 0 9;can 0 1 1;can 0 2 1;"
                + "can 0 3 1;");
        Check.due("the greatest number, not skills", 3, () -> many.most(1));

        Check.promise(13, "BARS as bits; NONE: they CAN.");
        Check.terms("none, if they CAN");
        Check.due("they can", -1, () -> x.bars(1));
        Check.due("no works", -1, () -> Check.houseOf("person 8;").bars(0));
        Check.terms("BARS: the smallest set of WORKS that LEFT can't do, were there no others");
        Check.due("all eight together", 255, () -> x.bars(2));
        Check.due("nobody left", 1, () -> x.bars(0));
        Check.due("no hours", 1, () -> x.bars(4));
        FullHouse last = Check.houseOf("person 8;" + Houses.worksInTurn(8) + Houses.canAll(0, 7, 1));
        Check.due("the last alone", 128, () -> last.bars(1));
        FullHouse single = Check.houseOf("person 3;work 0 2;work 1 2;work 9 1;can 0 0 1;can 0 1 1;");
        Check.due("one ahead of two that are less", 4, () -> single.bars(1));
        Check.terms("of as small the least as bits");
        FullHouse pairs = Check.houseOf("person 24;work 0 1;work 9 2;work 10 2;work 11 2;" + Houses.canAll(0, 4, 1));
        Check.due("of two pairs the lesser", 6, () -> pairs.bars(1));
    }

    private static void toldRows() {
        Check.promise(14, "A WORK of the TOLD ROW (at first all are nobody's) is a PERSON's (NONE: nobody's): true.");
        FullHouse x = Check.houseOf("person 9;person 9;" + Houses.worksInTurn(2) + Houses.canAll(0, 2, 1)
                + Houses.canAll(1, 2, 1));
        Check.due("at first", 1, () -> x.judge(3));
        tellAll(x, 0, 1);
        Check.due("all told", -1, () -> x.judge(3));
        Check.due("nobody's again", 1, () -> Check.bit(x.tell(1, -1)));
        Check.due("judged", 11, () -> x.judge(3));
        Check.due("what can't be may be told", 1, () -> Check.bit(x.tell(1, 1)));

        Check.promise(14, "False (STATUS 1): no such WORK, PERSON.");
        int[][] wrong = {{2, 0}, {-1, 0}, {0, 2}, {0, -2}, {2, 2}, {-1, -1}, {2, -1}};
        int refused = 0;
        for (int[] pair : wrong) {
            refused++;
            int so = refused;
            Check.due("tell " + pair[0] + " " + pair[1], 0, () -> Check.bit(x.tell(pair[0], pair[1])));
            Check.due("refused", so, () -> x.count(6));
        }
        for (int far : Check.FAR) {
            Check.due("tell " + far + " 0", 0, () -> Check.bit(x.tell(far, 0)));
            Check.due("tell 0 " + far, 0, () -> Check.bit(x.tell(0, far)));
        }
        Check.due("all were refused", refused + 2 * Check.FAR.length, () -> x.count(6));
        Check.due("the row stays", -1, () -> x.judge(3));
        Check.due("other counts", 0, () -> x.count(5) + x.count(7));
        FullHouse none = new FullHouse();
        Check.due("no works to tell", 0, () -> Check.bit(none.tell(0, -1)));
        Check.due("it is counted", 1, () -> none.count(6));
        Check.due("nobody to tell", 1, () -> Check.bit(Check.houseOf("work 1 1;").tell(0, -1)));
        Check.due("nobody to tell: 0", 0, () -> Check.bit(Check.houseOf("work 1 1;").tell(0, 0)));
    }

    private static void judged() {
        Check.promise(15, "10 by the WORK and the number (1 to 5); NONE: all is right.");
        FullHouse x = Check.houseOf("person 24;person 7;person 8;person 24;" + Houses.worksInTurn(8)
                + Houses.canAll(0, 8, 1) + Houses.canAll(1, 8, 1) + Houses.canAll(2, 8, 1));
        Check.due("the first work", 1, () -> x.judge(15));
        tellAll(x, 0, 0, 0, 0, 0, 0, 0, -1);
        Check.due("the last is nobody's", 71, () -> x.judge(15));
        x.tell(7, 1);
        Check.due("by one who isn't left", 72, () -> x.judge(1));
        Check.due("who is", -1, () -> x.judge(3));
        x.tell(7, 3);
        Check.due("by one who can't", 73, () -> x.judge(15));
        tellAll(x, 1, 1, 1, 1, 1, 1, 1, 1);
        Check.due("more hours than his seven", 75, () -> x.judge(15));
        tellAll(x, 2, 2, 2, 2, 2, 2, 2, 2);
        Check.due("just his eight", -1, () -> x.judge(15));
        Check.due("no works", -1, () -> new FullHouse().judge(0));
        FullHouse clash = Check.houseOf("person 24;work 23 1;" + Houses.worksInTurn(6) + "work 23 1;"
                + Houses.canAll(0, 8, 1));
        tellAll(clash, 0, 0, 0, 0, 0, 0, 0, 0);
        Check.due("the last at the first one's hour", 74, () -> clash.judge(1));

        Check.terms("2 he isn't LEFT, 3 his SKILL is 0, 4 he has a lesser WORK at one of its hours, "
                + "5 with his lesser WORKS it is more hours than his (of one WORK the least number)");
        FullHouse all = Check.houseOf("person 2;person 2;work 5 2;work 6 1;can 0 0 1;can 1 1 1;");
        tellAll(all, 0, 0);
        Check.due("3 ahead of 4 and 5", 13, () -> all.judge(1));
        Check.due("2 ahead of all", 2, () -> all.judge(2));
        tellAll(all, 0, 1);
        Check.due("2 ahead of none", 12, () -> all.judge(1));
        FullHouse both = Check.houseOf("person 2;work 5 2;work 6 1;can 0 0 1;can 0 1 1;");
        tellAll(both, 0, 0);
        Check.due("4 ahead of 5", 14, () -> both.judge(1));
        FullHouse long3 = Check.houseOf("person 2;work 5 3;work 5 1;can 0 0 1;");
        tellAll(long3, 0, -1);
        Check.due("5 of a first work, ahead of a second one's 1", 5, () -> long3.judge(1));
        long3.tell(1, 0);
        Check.due("a greater work at its hours isn't the first one's", 5, () -> long3.judge(1));
        FullHouse other = Check.houseOf("person 1;person 1;work 5 1;work 5 1;" + Houses.canAll(0, 2, 1)
                + Houses.canAll(1, 2, 1));
        tellAll(other, 0, 1);
        Check.due("another's work at its hour", -1, () -> other.judge(3));
    }

    private static void any(String text, int missed, int couples, int one, int two) {
        FullHouse x = Check.houseOf(text);
        int[] want = {missed, couples, one, two};
        for (int what = 0; what < 4; what++) {
            int of = what;
            Check.due("any " + what + " of " + text, want[what], () -> x.any(of));
        }
    }

    private static void holds() {
        Check.promise(16, "MISSED, as bits (what 0), how many COUPLES (1), whether it HOLDS for any one (2: 1), "
                + "for any two (3: 1). NoSuchElementException: another what.");
        FullHouse x = Check.houseOf("person 5;work 1 1;");
        Check.due("the first", 1, () -> x.any(0));
        Check.due("the last", 0, () -> x.any(3));
        Check.due("below", Check.NO_SUCH, () -> x.any(-1));
        Check.due("above", Check.NO_SUCH, () -> x.any(4));
        for (int far : Check.FAR) {
            Check.due("any " + far, Check.NO_SUCH, () -> x.any(far));
        }

        Check.terms("It HOLDS for any one, if LEFT CAN, whoever one is away; for any two, if so of any two (of a "
                + "HOUSE of one: of him).");
        // nobody: there is none to be away
        any("", 0, 0, 1, 1);
        any("work 1 1;", 0, 0, 1, 1);
        // one: without him
        any("person 5;", 0, 0, 1, 1);
        any("person 5;work 1 1;", 1, 0, 0, 0);
        any("person 5;work 1 1;can 0 0 1;", 1, 0, 0, 0);
        // two: without both nobody is left
        any("person 5;person 5;", 0, 0, 1, 1);
        any("person 5;person 5;work 1 1;can 0 0 1;", 1, 1, 0, 0);
        any("person 5;person 5;work 1 1;can 1 0 1;", 2, 1, 0, 0);
        any("person 5;person 5;work 1 1;can 0 0 1;can 1 0 1;", 0, 1, 1, 0);
        // three
        String three = "person 5;person 5;person 5;work 1 1;can 0 0 1;";
        any(three + "can 1 0 1;", 0, 1, 1, 0);
        any(three + "can 2 0 1;", 0, 1, 1, 0);
        any(three + "can 1 0 1;can 2 0 1;", 0, 0, 1, 1);
        any(three, 1, 2, 0, 0);

        Check.terms("MISSED: those whom alone being away they can't; COUPLES that can't be away both.");
        String six = "person 5;".repeat(6) + "work 1 1;";
        any(six, 63, 15, 0, 0);
        any(six + "can 5 0 1;", 32, 5, 0, 0);
        any(six + "can 0 0 1;can 5 0 1;", 0, 1, 1, 0);
        any(six + "can 0 0 1;can 3 0 1;can 5 0 1;", 0, 0, 1, 1);
    }

    private static void learn(String text, boolean two, int pains, int set, int bound) {
        FullHouse x = Check.houseOf(text);
        Check.due("pains of " + text, pains, () -> x.learn(two, 0));
        Check.due("set of " + text, set, () -> x.learn(two, 1));
        Check.due("bound of " + text, bound, () -> x.learn(two, 2));
    }

    private static void learning() {
        Check.promise(17, "NoSuchElementException: another what.");
        FullHouse x = Check.houseOf("person 5;");
        for (int far : Check.FAR) {
            Check.due("learn false " + far, Check.NO_SUCH, () -> x.learn(false, far));
            Check.due("learn true " + far, Check.NO_SUCH, () -> x.learn(true, far));
        }
        Check.due("below", Check.NO_SUCH, () -> x.learn(false, -1));
        Check.due("above", Check.NO_SUCH, () -> x.learn(false, 3));
        Check.due("below, two", Check.NO_SUCH, () -> x.learn(true, -1));
        Check.due("above, two", Check.NO_SUCH, () -> x.learn(true, 3));

        Check.terms("LEARN: of sets of TEACHINGS that of least PAINS together by which it HOLDS (for any one, any two)");
        String eight = "person 24;person 24;" + Houses.worksInTurn(8) + Houses.canAll(0, 8, 1);
        StringBuilder all = new StringBuilder(eight);
        for (int w = 0; w < 8; w++) {
            all.append("learn 1 ").append(w).append(" 1 99;");
        }
        learn(all.toString(), false, 792, 255, 792);
        learn(all.toString(), true, -1, -1, -1);
        learn(eight + Houses.canAll(1, 8, 1), false, 0, 0, 0);
        learn("", false, 0, 0, 0);
        learn("", true, 0, 0, 0);
        // nobody: it holds, though no work has two, or three, who can do it
        learn("work 1 1;", false, 0, 0, -1);
        learn("work 1 1;", true, 0, 0, -1);
        learn("person 5;", false, 0, 0, 0);
        learn("person 5;", true, 0, 0, 0);
        String three = "person 5;person 5;person 5;work 1 1;can 0 0 1;";
        learn(three + "learn 1 0 1 99;learn 2 0 1 98;", false, 98, 2, 98);
        learn(three + "learn 1 0 1 99;learn 2 0 1 98;", true, 197, 3, 197);
        learn(three + "can 1 0 1;learn 2 0 1 98;", false, 0, 0, 0);
        learn(three + "can 1 0 1;learn 2 0 1 98;", true, 98, 1, 98);
        // one has no hours: what he might learn is of no use, whichever is told first
        String idle = "person 5;person 5;person 0;work 1 1;can 0 0 1;";
        learn(idle + "learn 2 0 1 1;learn 1 0 1 9;", false, 9, 2, 1);
        learn(idle + "learn 1 0 1 9;learn 2 0 1 1;", false, 9, 1, 1);
        // of eight the first alone, or the last alone, is of use
        StringBuilder seven = new StringBuilder();
        for (int w = 1; w < 8; w++) {
            seven.append("learn 2 ").append(w).append(" 1 1;");
        }
        String house = "person 24;person 24;person 0;" + Houses.worksInTurn(8) + Houses.canAll(0, 8, 1)
                + Houses.canAll(1, 8, 1).substring(10);
        learn(house + "learn 1 0 1 50;" + seven, false, 50, 1, 50);
        learn(house + seven + "learn 1 0 1 50;", false, 50, 128, 50);
        // 1 has an hour alone, but that is enough
        String dear = "person 5;person 1;person 5;work 1 1;work 2 1;can 0 0 1;can 0 1 1;can 2 0 1;";
        learn(dear + "learn 1 1 1 9;learn 2 1 1 9;", false, 9, 1, 9);

        Check.terms("of like ones the least as bits; none, if all don't do.");
        learn(three + "learn 1 0 1 7;learn 2 0 1 7;", false, 7, 1, 7);
        learn(three + "learn 2 0 1 7;learn 1 0 1 7;", false, 7, 1, 7);
        // the works are at one hour: 1 and 3 must learn both, or 2 one
        String either = "person 5;person 5;person 5;person 5;work 1 1;work 1 1;can 0 0 1;can 0 1 1;can 1 0 1;";
        learn(either + "learn 1 1 1 1;learn 3 0 1 2;learn 2 1 1 3;", false, 3, 3, 1);
        learn(either + "learn 2 1 1 3;learn 1 1 1 1;learn 3 0 1 2;", false, 3, 1, 1);
        learn(either + "learn 1 1 1 1;learn 3 0 1 2;learn 2 1 1 2;", false, 2, 4, 1);
        learn(either + "learn 2 1 1 4;learn 1 1 1 1;learn 3 0 1 2;", false, 3, 6, 1);
        learn(three, false, -1, -1, -1);
        learn("person 5;person 0;work 1 1;can 0 0 1;learn 1 0 1 7;", false, -1, -1, 7);
        learn("person 5;work 1 1;can 0 0 1;", false, -1, -1, -1);
        learn("person 5;work 1 1;learn 0 0 1 1;", true, -1, -1, -1);

        Check.terms("BOUND: for each WORK that fewer than two (than three, for any two) CAN do (whatever hours), "
                + "PAINS of as many TEACHINGS of it as are missing, the least ones; all together; none, if there are "
                        + "too few.");
        bound("", 11, 36);
        bound("can 0 0 1;", 5, 21);
        bound("can 0 0 1;can 1 0 1;", 0, 10);
        bound("can 0 0 1;can 1 0 1;can 2 0 1;", 0, 0);
        FullHouse sum = Check.houseOf("person 0;person 0;person 0;work 1 1;work 2 1;work 3 1;can 0 0 1;can 0 1 1;can 1 1 1;"
                + "learn 2 0 1 20;learn 1 0 1 10;learn 2 1 1 5;learn 0 2 1 1;learn 1 2 1 2;learn 2 2 1 4;");
        Check.due("all together, for any one", 13, () -> sum.learn(false, 2));
        Check.due("all together, for any two", 42, () -> sum.learn(true, 2));
        FullHouse few = Check.houseOf("person 5;person 5;person 5;work 1 1;work 2 1;can 0 0 1;can 1 0 1;can 0 1 1;"
                + "learn 1 1 1 3;");
        Check.due("just enough", 3, () -> few.learn(false, 2));
        Check.due("too few", -1, () -> few.learn(true, 2));
    }

    /** As many as cans tell can do a work; others may learn it: as many of the least pains as are missing. */
    private static void bound(String cans, int one, int two) {
        int known = (int) cans.chars().filter(c -> c == ';').count();
        StringBuilder text = new StringBuilder("person 0;".repeat(6) + "work 1 8;" + cans);
        int[][] pains = {{25, 6, 5, 26}, {26, 5, 16, 27}, {26, 10, 27, 28}, {29, 29, 29, 29}};
        for (int i = 0; i < Math.min(4, 6 - known); i++) {
            text.append("learn ").append(known + i).append(" 0 1 ").append(pains[known][i]).append(";");
        }
        FullHouse x = Check.houseOf(text.toString());
        Check.due("bound for one, " + known + " can", one, () -> x.learn(false, 2));
        Check.due("bound for two, " + known + " can", two, () -> x.learn(true, 2));
    }

    private static void oneMore() {
        Check.promise(18, "ONE MORE, as bits; NONE: no set does.");
        Check.due("he can't do two at one hour", -1,
                () -> Check.houseOf("person 24;work 1 2;work 2 2;can 0 0 1;can 0 1 1;").more());
        Check.due("more than any one who is left can help", -1,
                () -> Check.houseOf("person 24;person 0;work 1 1;work 1 1;work 1 1;" + Houses.canAll(0, 3, 1)).more());
        Check.terms("ONE MORE: the smallest set of WORKS such that with one more PERSON, who has 24 HOURS and a SKILL "
                + "of 1 at these, "
                + "it HOLDS for any one (of those who were there; he is never away)");
        Check.due("nobody", 0, () -> new FullHouse().more());
        Check.due("nobody, but works", 0, () -> Check.houseOf("work 1 1;").more());
        Check.due("no works", 0, () -> Check.houseOf("person 5;").more());
        Check.due("it holds", 0, () -> Check.houseOf("person 5;person 5;work 1 1;can 0 0 1;can 1 0 1;").more());
        Check.due("all eight", 255, () -> Check.houseOf("person 24;" + Houses.worksInTurn(8)
                + Houses.canAll(0, 8, 1)).more());
        Check.due("just 24 hours", 7, () -> Check.houseOf("person 0;work 0 8;work 8 8;work 16 8;").more());
        Check.due("nobody can, the others have hours", 128,
                () -> Check.houseOf("person 24;person 24;" + Houses.worksInTurn(8) + Houses.canAll(0, 7, 1)
                        + Houses.canAll(1, 7, 1)).more());
        // fewer works, though they are greater as bits
        Check.due("one ahead of two that are less", 4,
                () -> Check.houseOf("person 2;person 2;work 1 1;work 2 1;work 3 2;" + Houses.canAll(0, 3, 1)
                        + Houses.canAll(1, 3, 1)).more());
        Check.terms("of as small the least as bits");
        Check.due("either would do", 1,
                () -> Check.houseOf("person 1;person 1;work 1 1;work 1 1;" + Houses.canAll(0, 2, 1)
                        + Houses.canAll(1, 2, 1)).more());
    }

    private static void worth(FullHouse x, int person, int upper, int lower) {
        Check.due("upper part of " + person, upper, () -> x.worth(person, 0));
        Check.due("lower part of " + person, lower, () -> x.worth(person, 1));
    }

    private static void worths() {
        Check.promise(19, "NoSuchElementException: also another what.");
        FullHouse x = Check.houseOf("person 5;person 5;work 1 1;can 0 0 1;");
        for (int far : Check.FAR) {
            Check.due("worth 0 " + far, Check.NO_SUCH, () -> x.worth(0, far));
            Check.due("worth " + far + " 0", Check.NO_SUCH, () -> x.worth(far, 0));
        }
        for (int beside : new int[] {-1, 2}) {
            Check.due("worth 0 " + beside, Check.NO_SUCH, () -> x.worth(0, beside));
            Check.due("worth " + beside + " 0", Check.NO_SUCH, () -> x.worth(beside, 0));
            Check.due("worth " + beside + " twice", Check.NO_SUCH, () -> x.worth(beside, beside));
        }
        Check.due("nobody", Check.NO_SUCH, () -> new FullHouse().worth(0, 0));
        Check.terms("WORTH of a PERSON: over all orders in which PEOPLE come, by how much MOST grows as he comes to "
                + "those ahead of him, "
                + "together, by how many orders there are: a fraction in lowest terms.");
        worth(x, 0, 1, 1);
        worth(x, 1, 0, 1);
        worth(Check.houseOf("person 24;" + Houses.worksInTurn(8) + Houses.canAll(0, 8, 1)), 0, 8, 1);
        worth(Check.houseOf("person 24;"), 0, 0, 1);
        StringBuilder six = new StringBuilder("person 24;".repeat(6) + Houses.worksInTurn(8));
        for (int p = 0; p < 6; p++) {
            six.append("can ").append(p).append(" 7 1;");
        }
        worth(Check.houseOf(six.toString()), 5, 1, 6);
        // each work is worth 1, shared by those who can do it
        FullHouse shares = Check.houseOf("person 24;".repeat(6) + Houses.worksInTurn(6) + Houses.canAll(0, 6, 1)
                + Houses.canAll(1, 5, 1)
                + Houses.canAll(2, 4, 1) + Houses.canAll(3, 3, 1) + Houses.canAll(4, 2, 1) + Houses.canAll(5, 1, 1));
        worth(shares, 5, 1, 6);
        worth(shares, 4, 11, 30);
        worth(shares, 3, 37, 60);
        worth(shares, 2, 19, 20);
        worth(shares, 1, 29, 20);
        worth(shares, 0, 49, 20);
    }

    private static void emptyHouse() {
        Check.promise(1, "No PEOPLE, no WORKS.");
        FullHouse x = new FullHouse();
        Check.due("day", 0, () -> x.day(0));
        Check.due("does", Check.NO_SUCH, () -> x.does(0));
        Check.due("most", 0, () -> x.most(0));
        Check.due("bars", -1, () -> x.bars(0));
        Check.due("tell", 0, () -> Check.bit(x.tell(0, 0)));
        Check.due("judge", -1, () -> x.judge(0));
        Check.due("missed", 0, () -> x.any(0));
        Check.due("couples", 0, () -> x.any(1));
        Check.due("holds for one", 1, () -> x.any(2));
        Check.due("holds for two", 1, () -> x.any(3));
        for (int what = 0; what < 3; what++) {
            int of = what;
            Check.due("learn false " + what, 0, () -> x.learn(false, of));
            Check.due("learn true " + what, 0, () -> x.learn(true, of));
        }
        Check.due("more", 0, x::more);
        Check.due("worth", Check.NO_SUCH, () -> x.worth(0, 0));
    }

    public static void main(String[] args) throws IOException {
        Check.readDocument(args);
        lefts();
        hours();
        days();
        keptRows();
        mostAndBars();
        toldRows();
        judged();
        holds();
        learning();
        oneMore();
        worths();
        emptyHouse();
        Check.allPromises(10, 19);
        Check.end();
    }
}
