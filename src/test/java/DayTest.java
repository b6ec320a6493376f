/** Promises 10 to 19: days, what is told in a row, whom the house misses, learning, worth. */
public final class DayTest {
    /** 0 and 1 can do both works, which are at one hour; 2 can do nothing. */
    private static final String PAIR = "person 8;person 8;person 8;work 6 2;work 7 2;"
            + "can 0 0 5;can 0 1 5;can 1 0 5;can 1 1 5;";

    private static void day() {
        FullHouse x = Check.houseOf(PAIR);
        Check.due("no row yet", Check.NO_SUCH, () -> x.does(0));
        Check.due("none can", -1, () -> x.day(0));
        Check.due("one can't, they meet", -1, () -> x.day(1));
        Check.due("still no row", Check.NO_SUCH, () -> x.does(0));
        Check.due("two can", 10, () -> x.day(3));
        Check.due("of like rows the first: 0", 0, () -> x.does(0));
        Check.due("of like rows the first: 1", 1, () -> x.does(1));
        Check.due("the third doesn't help", -1, () -> x.day(5));
        Check.due("what is kept stays", 1, () -> x.does(1));
        for (int left : new int[] {8, -1, Integer.MIN_VALUE, Integer.MAX_VALUE}) {
            Check.due("day " + left, Check.ILLEGAL, () -> x.day(left));
            Check.due("most " + left, Check.ILLEGAL, () -> x.most(left));
            Check.due("bars " + left, Check.ILLEGAL, () -> x.bars(left));
            Check.due("judge " + left, Check.ILLEGAL, () -> x.judge(left));
        }
        for (int work : new int[] {2, -1, 8, Integer.MIN_VALUE}) {
            Check.due("does " + work, Check.NO_SUCH, () -> x.does(work));
        }
    }

    private static void bestRows() {
        FullHouse skills = Check.houseOf("person 9;person 9;work 1 1;work 2 1;can 0 0 2;can 0 1 9;can 1 0 3;can 1 1 8;");
        Check.due("most skills", 12, () -> skills.day(3));
        Check.due("most skills: 0", 1, () -> skills.does(0));
        Check.due("most skills: 1", 0, () -> skills.does(1));
        Check.due("one alone", 11, () -> skills.day(1));
        Check.due("the latest row is kept", 0, () -> skills.does(0));
        // skills that each alone would take can't both be had: 0 has but one hour
        FullHouse hours = Check.houseOf("person 1;person 9;work 1 1;work 2 1;can 0 0 9;can 0 1 9;can 1 0 5;can 1 1 6;");
        Check.due("fewer hours", 15, () -> hours.day(3));
        Check.due("fewer hours: 0", 0, () -> hours.does(0));
        Check.due("fewer hours: 1", 1, () -> hours.does(1));
        Check.due("more hours than his", -1, () -> hours.day(1));
        FullHouse idle = Check.houseOf("person 0;work 1 1;can 0 0 9;");
        Check.due("no hours", -1, () -> idle.day(1));
        FullHouse touching = Check.houseOf("person 3;work 6 2;work 8 1;can 0 0 1;can 0 1 1;");
        Check.due("one begins as the other ends, and just his hours", 2, () -> touching.day(1));
        FullHouse none = Check.houseOf("person 3;");
        Check.due("no works", 0, () -> none.day(0));
        Check.due("no works, no doer", Check.NO_SUCH, () -> none.does(0));
        StringBuilder text = new StringBuilder();
        for (int p = 0; p < 6; p++) {
            text.append("person 24;");
        }
        for (int w = 0; w < 8; w++) {
            text.append("work ").append(w * 3).append(" 3;can 5 ").append(w).append(" 9;can 4 ").append(w).append(" 9;");
        }
        FullHouse full = Check.houseOf(text.toString());
        Check.due("the greatest sum", 72, () -> full.day(63));
        for (int w = 0; w < 8; w++) {
            int work = w;
            Check.due("the greatest sum: " + w, 4, () -> full.does(work));
        }
        Check.due("by the last alone", 72, () -> full.day(32));
        Check.due("by the last alone: 7", 5, () -> full.does(7));
    }

    private static void mostAndBars() {
        FullHouse x = Check.houseOf(PAIR);
        int[] mosts = {0, 1, 1, 2, 0, 1, 1, 2};
        int[] bars = {1, 3, 3, -1, 1, 3, 3, -1};
        for (int left = 0; left < 8; left++) {
            int of = left;
            Check.due("most " + left, mosts[left], () -> x.most(of));
            Check.due("bars " + left, bars[left], () -> x.bars(of));
        }
        FullHouse hours = Check.houseOf("person 4;work 0 3;work 3 2;work 5 2;work 9 1;can 0 0 1;can 0 1 1;can 0 2 1;can 0 3 1;");
        Check.due("most by hours", 2, () -> hours.most(1));
        Check.due("bars by hours, of as small the least", 3, () -> hours.bars(1));
        FullHouse second = Check.houseOf("person 4;work 0 3;work 0 2;work 5 2;can 0 0 1;can 0 1 1;");
        Check.due("one work bars ahead of two", 4, () -> second.bars(1));
        FullHouse three = Check.houseOf("person 4;work 0 2;work 5 2;work 9 2;can 0 0 1;can 0 1 1;can 0 2 1;");
        Check.due("three together bar", 7, () -> three.bars(1));
        Check.due("no works: most", 0, () -> new FullHouse().most(0));
        Check.due("no works: bars", -1, () -> new FullHouse().bars(0));
    }

    private static void toldRow() {
        FullHouse x = Check.houseOf("person 5;person 8;work 6 2;work 7 2;work 10 4;work 20 1;"
                + "can 0 0 5;can 0 1 5;can 0 2 5;can 1 1 4;can 1 3 1;can 0 3 1;");
        Check.due("nobody's at first", 1, () -> x.judge(3));
        Check.due("tell 0 0", 1, () -> Check.bit(x.tell(0, 0)));
        Check.due("the next is nobody's", 11, () -> x.judge(3));
        Check.due("he isn't left", 2, () -> x.judge(2));
        x.tell(1, 0);
        Check.due("two at one hour", 14, () -> x.judge(3));
        x.tell(1, 1);
        x.tell(2, 1);
        Check.due("he can't", 23, () -> x.judge(3));
        Check.due("not left comes ahead of can't", 12, () -> x.judge(1));
        x.tell(2, 0);
        Check.due("more hours than his", 25, () -> x.judge(3));
        x.tell(0, 1);
        Check.due("can't comes ahead of all behind", 3, () -> x.judge(3));
        x.tell(0, 0);
        x.tell(2, -1);
        Check.due("nobody's again", 21, () -> x.judge(3));
        int[][] wrong = {{4, 0}, {-1, 0}, {0, 2}, {0, -2}, {4, -1}, {Integer.MIN_VALUE, 0}, {0, Integer.MAX_VALUE}};
        for (int[] pair : wrong) {
            Check.due("tell " + pair[0] + " " + pair[1], 0, () -> Check.bit(x.tell(pair[0], pair[1])));
        }
        Check.due("refused", wrong.length, () -> x.count(6));
        Check.due("a refused one changes nothing", 21, () -> x.judge(3));
        FullHouse right = Check.houseOf("person 5;work 6 2;work 8 3;can 0 0 5;can 0 1 5;");
        right.tell(0, 0);
        right.tell(1, 0);
        Check.due("all is right", -1, () -> right.judge(1));
        Check.due("nobody is left", 2, () -> right.judge(0));
        Check.due("no works", -1, () -> new FullHouse().judge(0));
        Check.due("no works to tell", 0, () -> Check.bit(new FullHouse().tell(0, -1)));
    }

    private static void any(String text, int missed, int couples, int one, int two) {
        FullHouse x = Check.houseOf(text);
        int[] want = {missed, couples, one, two};
        for (int what = 0; what < 4; what++) {
            int of = what;
            Check.due("any " + what + " of " + text, want[what], () -> x.any(of));
        }
        Check.due("any -1", Check.NO_SUCH, () -> x.any(-1));
        Check.due("any 4", Check.NO_SUCH, () -> x.any(4));
    }

    private static void missed() {
        any(PAIR, 3, 3, 0, 0);
        any("", 0, 0, 1, 1);
        any("work 1 1;", 0, 0, 1, 1);
        any("person 5;", 0, 0, 1, 1);
        any("person 5;work 1 1;can 0 0 1;", 1, 0, 0, 0);
        any("person 5;person 5;work 1 1;can 0 0 1;can 1 0 1;", 0, 1, 1, 0);
        any("person 5;person 5;person 5;work 1 1;can 0 0 1;can 1 0 1;", 0, 1, 1, 0);
        any("person 5;person 5;person 5;work 1 1;can 0 0 1;can 1 0 1;can 2 0 1;", 0, 0, 1, 1);
        any("person 5;person 5;work 1 1;", 3, 1, 0, 0);
    }

    private static void learn(String text, boolean two, int pains, int set, int bound) {
        FullHouse x = Check.houseOf(text);
        Check.due("learn " + two + " 2 of " + text, bound, () -> x.learn(two, 2));
        Check.due("learn " + two + " 0 of " + text, pains, () -> x.learn(two, 0));
        Check.due("learn " + two + " 1 of " + text, set, () -> x.learn(two, 1));
        Check.due("learn -1", Check.NO_SUCH, () -> x.learn(two, -1));
        Check.due("learn 3", Check.NO_SUCH, () -> x.learn(two, 3));
        Check.due("learning is not done", x.count(1) == 0 ? Check.NO_SUCH : "0", () -> x.skill(1, 0));
    }

    private static void learning() {
        String three = "person 8;person 8;person 8;work 6 2;can 0 0 5;";
        learn(three, false, -1, -1, -1);
        learn(three + "learn 1 0 1 7;", false, 7, 1, 7);
        learn(three + "learn 1 0 1 7;", true, -1, -1, -1);
        learn(three + "learn 1 0 1 7;learn 2 0 1 6;", false, 6, 2, 6);
        learn(three + "learn 1 0 1 7;learn 2 0 1 7;", false, 7, 1, 7);
        learn(three + "learn 1 0 1 7;learn 2 0 1 6;", true, 13, 3, 13);
        // whoever learns it, he has no hours: the bound asks for skills alone
        learn("person 8;person 1;work 6 2;can 0 0 5;learn 1 0 9 4;", false, -1, -1, 4);
        // a dear one does what two cheap ones would: of like pains the least as bits
        String both = "person 8;person 8;person 8;work 6 1;work 9 1;can 0 0 1;can 0 1 1;can 2 0 1;";
        learn(both + "learn 1 0 1 3;learn 1 1 1 9;learn 2 1 1 9;", false, 9, 2, 9);
        learn(both + "learn 1 0 1 3;learn 1 1 1 9;learn 2 1 1 8;", false, 8, 4, 8);
        learn(both + "learn 1 0 1 3;learn 1 1 1 9;learn 2 1 1 8;", true, 20, 7, 20);
        learn("person 5;person 5;", false, 0, 0, 0);
        learn("person 5;person 5;", true, 0, 0, 0);
        Check.due("nobody: holds", 0, () -> new FullHouse().learn(true, 1));
        FullHouse alone = Check.houseOf("person 5;work 1 1;can 0 0 1;");
        Check.due("alone", -1, () -> alone.learn(true, 0));
        Check.due("alone: bound", -1, () -> alone.learn(true, 2));
        // two at one hour: 1 must learn one of them though both works have two people
        FullHouse meet = Check.houseOf("person 8;person 8;person 8;work 1 2;work 2 2;can 0 0 1;can 0 1 1;can 1 0 1;"
                + "can 1 1 1;learn 2 1 1 5;learn 2 0 1 5;");
        Check.due("meeting works: bound", 0, () -> meet.learn(false, 2));
        Check.due("meeting works: pains", 5, () -> meet.learn(false, 0));
        Check.due("meeting works: set", 1, () -> meet.learn(false, 1));
    }

    private static void oneMore() {
        Check.due("nobody", 0, () -> new FullHouse().more());
        Check.due("it holds", 0, () -> Check.houseOf("person 5;person 5;work 1 1;can 0 0 1;can 1 0 1;").more());
        Check.due("alone", 3, () -> Check.houseOf("person 5;work 1 1;work 2 1;can 0 0 1;can 0 1 1;").more());
        Check.due("alone, they meet", -1, () -> Check.houseOf("person 5;work 1 2;work 2 1;can 0 0 1;can 0 1 1;").more());
        Check.due("of as small the least", 1, () -> Check.houseOf(PAIR).more());
        Check.due("24 hours", 7, () -> Check.houseOf("person 5;work 0 8;work 8 8;work 16 8;can 0 0 1;").more());
        Check.due("a later work", 2, () -> Check.houseOf("person 5;person 5;work 1 1;work 2 1;can 0 0 1;can 1 0 1;can 0 1 1;").more());
    }

    private static void worth(FullHouse x, int person, int upper, int lower) {
        Check.due("worth " + person + " 0", upper, () -> x.worth(person, 0));
        Check.due("worth " + person + " 1", lower, () -> x.worth(person, 1));
    }

    private static void worths() {
        FullHouse pair = Check.houseOf(PAIR);
        worth(pair, 0, 1, 1);
        worth(pair, 1, 1, 1);
        worth(pair, 2, 0, 1);
        // 0 does either work, 1 and 2 the first alone: 0 brings the second always, the first in a third
        FullHouse three = Check.houseOf("person 8;person 8;person 8;work 1 1;work 2 1;can 0 0 1;can 0 1 1;can 1 0 1;can 2 0 1;");
        worth(three, 0, 4, 3);
        worth(three, 1, 1, 3);
        worth(three, 2, 1, 3);
        FullHouse six = Check.houseOf("person 8;person 8;person 8;person 8;person 8;person 8;work 1 1;"
                + "can 0 0 1;can 1 0 1;can 2 0 1;can 3 0 1;can 4 0 1;can 5 0 1;");
        worth(six, 5, 1, 6);
        worth(Check.houseOf("person 8;"), 0, 0, 1);
        for (int beside : new int[] {-1, 2, Integer.MIN_VALUE}) {
            Check.due("worth 0 " + beside, Check.NO_SUCH, () -> three.worth(0, beside));
            Check.due("worth " + (beside | 4), Check.NO_SUCH, () -> three.worth(beside | 4, 0));
        }
    }

    public static void main(String[] args) {
        day();
        bestRows();
        mostAndBars();
        toldRow();
        missed();
        learning();
        oneMore();
        worths();
        Check.end();
    }
}
