/** Promises 1 to 9: a new object, the tape, texts and their faults, and what a text told. */
public final class TextTest {
    private static final String SMALL = "person 8 drawn 300;person 5;work 6 2;work 20 4;can 0 0 5;"
            + "can 1 1 9;learn 1 0 3 99;forget 50;";

    private static String times(String line, int n) {
        return line.repeat(n);
    }

    private static void newObject() {
        FullHouse x = new FullHouse();
        for (int what = 0; what <= 8; what++) {
            int of = what;
            Check.due("new: count(" + what + ")", 0, () -> x.count(of));
        }
        Check.due("new: count(9)", Check.NO_SUCH, () -> x.count(9));
        Check.due("new: count(-1)", Check.NO_SUCH, () -> x.count(-1));
        Check.due("new: fault", -1, x::fault);
        Check.due("new: person", Check.NO_SUCH, () -> x.person(0, 0));
        Check.due("new: work", Check.NO_SUCH, () -> x.work(0, 0));
        Check.due("new: skill", Check.NO_SUCH, () -> x.skill(0, 0));
        Check.due("new: teaching", Check.NO_SUCH, () -> x.teaching(0, 0));
        Check.due("new: day(1)", Check.ILLEGAL, () -> x.day(1));
        Check.due("NONE", -1, () -> FullHouse.NONE);
    }

    private static void tape() {
        FullHouse x = new FullHouse();
        for (int i = 1; i <= 40; i++) {
            int size = 20 * i;
            Check.due("feed " + i, size, () -> x.feed(0x20202020, 0x20202020, 0x0a0a0a0a, 0x20202020, 0x20202020));
        }
        Check.due("feed beyond 800", -1, () -> x.feed(0, 0, 0, 0, 0));
        Check.due("none come beyond 800", 800, () -> x.count(4));
        Check.due("house(801)", Check.ILLEGAL, () -> x.house(801));
        Check.due("house(-1)", Check.ILLEGAL, () -> x.house(-1));
        Check.due("the tape stays", 800, () -> x.count(4));
        Check.due("blanks are a house", 0, () -> x.house(800));
        Check.due("the tape is empty", 0, () -> x.count(4));
        Check.due("an empty text is a house", 0, () -> x.house(0));
        // 'person 7;work 0 1;  ', the highest byte of each number first
        x.feed(0x70657273, 0x6f6e2037, 0x3b776f72, 0x6b203020, 0x313b2020);
        Check.due("bytes, the highest first", 0, () -> x.house(20));
        Check.due("hours by bytes", 7, () -> x.person(0, 0));
        x.feed(-1, 0, 0, 0, 0);
        Check.due("a byte above 127", 1, () -> x.house(1));
        Check.feed(x, "person 7;person 8; zz");
        Check.due("only the first bytes", 0, () -> x.house(18));
        Check.due("only the first bytes: people", 2, () -> x.count(0));
        Check.feed(x, "person 7;");
        Check.due("bytes behind them are gone", 20, () -> x.count(4));
    }

    private static void longText() {
        // six people, eight works and all skills: then blanks up to 800 bytes
        StringBuilder text = new StringBuilder(times("person 24;", 6)).append(times("work 1 1;", 8));
        for (int i = 0; i < 48; i++) {
            text.append("can ").append(i / 8).append(" ").append(i % 8).append(" 9;");
        }
        text.append("learn 0 0 1 1;");
        FullHouse x = new FullHouse();
        Check.feed(x, text.toString());
        Check.due("a long text", 4, () -> x.house(text.length()));
        String blanks = times(" ", 800 - text.length() + 14);
        String full = text.substring(0, text.length() - 14) + blanks;
        FullHouse y = Check.houseOf(full);
        Check.due("its length", 800, full::length);
        Check.due("its last skill", 9, () -> y.skill(5, 7));
    }

    private static void wordsAndNumbers() {
        Check.fault("", 0, -1);
        Check.fault("\n \n", 0, -1);
        Check.fault("person8drawn300;work6 2;can0 0 5;", 0, -1);
        Check.fault("person\n24 ;\nwork 0023 0001 ; can 0 0 0009;", 0, -1);
        Check.faultAt("^persons 8;", 1);
        Check.faultAt("^perso 8;", 1);
        Check.faultAt("^berson 8;", 1);
        Check.faultAt("^persoa 8;", 1);
        Check.faultAt("^personz 8;", 1);
        Check.faultAt("^zperson 8;", 1);
        Check.faultAt("person^{8;", 1);
        Check.faultAt("person^`8;", 1);
        Check.faultAt("person ^/8;", 1);
        Check.faultAt("person ^:8;", 1);
        Check.faultAt("person 8^:", 1);
        Check.faultAt("^Person 8;", 1);
        Check.faultAt("^drawn 8;", 1);
        Check.faultAt("^;", 1);
        Check.faultAt("^5;", 1);
        Check.faultAt("^12345;", 1);
        Check.faultAt("person 8;^;", 1);
        Check.faultAt("person^\t8;", 1);
        Check.faultAt("person ^-8;", 1);
        Check.faultAt("person^", 1);
        Check.faultAt("person  ^", 1);
        Check.faultAt("person 8^", 1);
        Check.faultAt("person 8 \n^", 1);
        Check.faultAt("person 8 ^8;", 1);
        Check.faultAt("person 8 ^12345;", 1);
        Check.faultAt("person 8 drawn^;", 1);
        Check.faultAt("person 8 drawn ^drawn;", 1);
        Check.faultAt("person 8 drawn 3 ^4;", 1);
        Check.faultAt("person 8 drawn 3^", 1);
        Check.faultAt("person 8 ^draw 3;", 1);
        Check.faultAt("work 8^;", 1);
        Check.faultAt("work 8 2 ^drawn 3;", 1);
        Check.faultAt("forget^;", 1);
        Check.faultAt("forget 3^", 1);
        Check.faultAt("person 8;work 1 1;can 0 0^;", 1);
        Check.faultAt("person 8;work 1 1;can 0 0 5 ^5;", 1);
        Check.faultAt("person 8;work 1 1;learn 0 0 5^;", 1);
        Check.faultAt("person 8;work 1 1;learn 0 ^x 5 5;", 1);
        Check.faultAt("person 8;^\u00e9", 1);
        // the first along the text counts, whatever comes behind it
        Check.faultAt("person ^25;work 1 9;X", 2);
    }

    private static void tooMuch() {
        Check.faultAt("person ^25;", 2);
        Check.faultAt("person ^00005;", 2);
        Check.fault("person 24;", 0, -1);
        Check.fault("person 0;", 0, -1);
        Check.faultAt("person 5 drawn ^1001;", 2);
        Check.fault("person 5 drawn 1000;", 0, -1);
        Check.faultAt("person 5 drawn ^10000;", 2);
        Check.faultAt("work ^24 1;", 2);
        Check.fault("work 23 1;", 0, -1);
        Check.faultAt("work 23 ^2;", 2);
        Check.faultAt("work 5 ^0;", 2);
        Check.faultAt("work 5 ^9;", 2);
        Check.fault("work 16 8;", 0, -1);
        Check.faultAt("work 17 ^8;", 2);
        Check.faultAt("person 5;work 5 1;can 0 0 ^10;", 2);
        Check.faultAt("person 5;work 5 1;can 0 0 ^0;", 2);
        Check.faultAt("person 5;work 5 1;can ^00000 0 1;", 2);
        Check.faultAt("person 5;work 5 1;can 0 ^00000 1;", 2);
        Check.faultAt("person 5;work 5 1;learn 0 0 ^0 5;", 2);
        Check.faultAt("person 5;work 5 1;learn 0 0 ^10 5;", 2);
        Check.faultAt("person 5;work 5 1;learn 0 0 9 ^0;", 2);
        Check.faultAt("person 5;work 5 1;learn 0 0 9 ^100;", 2);
        Check.fault("person 5;work 5 1;learn 0 0 9 99;", 0, -1);
        Check.faultAt("forget ^0;", 2);
        Check.faultAt("forget ^51;", 2);
        Check.fault("forget 50;", 0, -1);
        Check.fault(times("person 1;", 6), 0, -1);
        Check.faultAt(times("person 1;", 6) + "^person 99;", 2);
        Check.faultAt(times("person 1;", 6) + "^person;", 2);
        Check.fault(times("work 1 1;", 8), 0, -1);
        Check.faultAt(times("work 1 1;", 8) + "^work;", 2);
        StringBuilder learns = new StringBuilder("person 1;").append(times("work 1 1;", 8)).append("person 2;");
        for (int w = 0; w < 8; w++) {
            learns.append("learn 0 ").append(w).append(" 1 1;");
        }
        Check.fault(learns.toString(), 0, -1);
        Check.faultAt(learns + "^learn 1 0 1 1;", 2);
        Check.faultAt(learns + "^learn;", 2);
        Check.fault(learns + "can 1 0 1;", 0, -1);
    }

    private static void untoldAndTwice() {
        Check.faultAt("can ^0 0 5;", 3);
        Check.faultAt("person 5;can 0 ^0 5;", 3);
        Check.faultAt("person 5;work 1 1;can ^1 0 5;", 3);
        Check.faultAt("person 5;work 1 1;can ^1 9 99;", 3);
        Check.faultAt("person 5;work 1 1;learn ^1 0 5 5;", 3);
        Check.faultAt("person 5;work 1 1;learn 0 ^1 99 99;", 3);
        Check.faultAt("person 5;work 1 1;learn 0 0 ^99 999;", 2);
        Check.faultAt("person 5;work 1 1;can ^9999 0 5;", 3);
        Check.faultAt("person 5;work 1 1;learn 0 ^1 5 5;", 3);
        Check.faultAt("person 5;work 1 1;learn ^6 1 5 5;", 3);
        Check.faultAt("work 1 1;can ^0 0 5;person 5;", 3);
        Check.faultAt("person 5;work 1 1;can 0 0 1;can 0 ^0 2;", 4);
        Check.faultAt("person 5;work 1 1;can 0 0 1;learn 0 ^0 2 2;", 4);
        Check.faultAt("person 5;work 1 1;learn 0 0 1 1;learn 0 ^0 2 2;", 4);
        Check.faultAt("person 5;work 1 1;learn 0 0 1 1;can 0 ^0 2;", 4);
        Check.fault("person 5;person 5;work 1 1;work 1 1;can 0 0 1;can 0 1 1;can 1 0 1;learn 1 1 1 1;", 0, -1);
        Check.faultAt("forget 5;^forget 6;", 5);
        Check.faultAt("forget 5;person 1;^forget;", 5);
        Check.fault("person 5 drawn 600;person 5 drawn 400;", 0, -1);
        Check.faultAt("person 5 drawn 600;person 5 drawn 400;person 5;person 5 drawn ^1;", 5);
    }

    private static void whatWasTold() {
        FullHouse x = Check.houseOf(SMALL);
        int[] counts = {2, 2, 1, 50, 0, 0, 0, 0, 0};
        for (int what = 0; what < counts.length; what++) {
            int of = what;
            Check.due("count(" + what + ")", counts[what], () -> x.count(of));
        }
        int[][] people = {{8, 300, 1}, {5, 0, 2}};
        int[][] works = {{6, 2, 1}, {20, 4, 2}};
        for (int i = 0; i < 2; i++) {
            for (int what = 0; what < 3; what++) {
                int of = i;
                int which = what;
                Check.due("person " + i + " " + what, people[i][what], () -> x.person(of, which));
                Check.due("work " + i + " " + what, works[i][what], () -> x.work(of, which));
            }
        }
        int[] teaching = {1, 0, 3, 99};
        for (int what = 0; what < 4; what++) {
            int which = what;
            Check.due("teaching 0 " + what, teaching[what], () -> x.teaching(0, which));
        }
        Check.due("skill 0 0", 5, () -> x.skill(0, 0));
        Check.due("skill 0 1", 0, () -> x.skill(0, 1));
        Check.due("a teaching is no skill yet", 0, () -> x.skill(1, 0));
        Check.due("skill 1 1", 9, () -> x.skill(1, 1));
        for (int beside : new int[] {-1, 3, Integer.MAX_VALUE, Integer.MIN_VALUE}) {
            Check.due("person 0 " + beside, Check.NO_SUCH, () -> x.person(0, beside));
            Check.due("work 0 " + beside, Check.NO_SUCH, () -> x.work(0, beside));
            Check.due("teaching 0 " + (beside | 4), Check.NO_SUCH, () -> x.teaching(0, beside | 4));
        }
        for (int beside : new int[] {-1, 2, Integer.MAX_VALUE, Integer.MIN_VALUE}) {
            Check.due("person " + beside, Check.NO_SUCH, () -> x.person(beside, 0));
            Check.due("work " + beside, Check.NO_SUCH, () -> x.work(beside, 0));
            Check.due("skill " + beside + " 0", Check.NO_SUCH, () -> x.skill(beside, 0));
            Check.due("skill 0 " + beside, Check.NO_SUCH, () -> x.skill(0, beside));
            Check.due("teaching " + (beside | 1), Check.NO_SUCH, () -> x.teaching(beside | 1, 0));
        }
    }

    /** A fault leaves all but the tape, the status and the fault's place; a house takes all away. */
    private static void allStaysOrGoes() {
        FullHouse x = Check.houseOf(SMALL);
        x.day(3);
        x.tell(0, 0);
        x.tell(7, 0);
        x.on(1);
        x.begin(9);
        x.on(3);
        x.image();
        x.on(1);
        Check.feed(x, "person 1;forget 1;work 24 1;");
        Check.due("a fault", 2, () -> x.house(28));
        Check.due("its place", 23, x::fault);
        Check.due("house(1) of an empty tape", Check.ILLEGAL, () -> x.house(1));
        Check.due("the place stays", 23, x::fault);
        int[] counts = {2, 2, 1, 50, 0, 1, 1, 1, 4};
        for (int what = 0; what < counts.length; what++) {
            int of = what;
            Check.due("behind a fault count " + what, counts[what], () -> x.count(of));
        }
        Check.due("behind a fault hours", 8, () -> x.person(0, 0));
        Check.due("behind a fault does", 0, () -> x.does(0));
        Check.due("behind a fault judge", 11, () -> x.judge(3));
        Check.due("behind a fault learn", -1, () -> x.learn(false, 0));
        Check.due("behind a fault restore", 1, () -> Check.bit(x.restore()));
        Check.due("behind a fault weeks", 3, () -> x.count(8));
        Check.feed(x, SMALL);
        Check.due("the same house", 0, () -> x.house(SMALL.length()));
        Check.due("behind a house no fault", -1, x::fault);
        int[] anew = {2, 2, 1, 50, 0, 1, 1, 1, 0};
        for (int what = 0; what < anew.length; what++) {
            int of = what;
            Check.due("behind a house count " + what, anew[what], () -> x.count(of));
        }
        Check.due("behind a house does", Check.NO_SUCH, () -> x.does(0));
        Check.due("behind a house judge", 1, () -> x.judge(3));
        Check.due("behind a house week", Check.NO_SUCH, () -> x.week(0, 0));
        Check.due("behind a house knows", Check.NO_SUCH, () -> x.knows(0));
        Check.due("behind a house image", 0, () -> Check.bit(x.image()));
        Check.due("behind a house restore", 0, () -> Check.bit(x.restore()));
        Check.due("behind a house on", -1, () -> x.on(0));
        Check.due("an empty house", 0, () -> x.house(0));
        Check.due("an empty house has nobody", 0, () -> x.count(0));
        Check.due("an empty house forgets never", 0, () -> x.count(3));
    }

    public static void main(String[] args) {
        newObject();
        tape();
        longText();
        wordsAndNumbers();
        tooMuch();
        untoldAndTwice();
        whatWasTold();
        allStaysOrGoes();
        Check.end();
    }
}
