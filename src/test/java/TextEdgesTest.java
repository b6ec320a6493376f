import java.io.IOException;
import java.util.ArrayList;
import java.util.List;

/** ==== 1 and promises 1 to 9: for each sentence that names a boundary case a test of its own. */
public final class TextEdgesTest {
    /** One person and one work ahead of a line that needs them. */
    private static final String ONE = "person 8;work 1 1;";

    /** A number that may be least to greatest: the last that is allowed, the first that isn't. */
    private static void range(String before, int least, int greatest, String behind) {
        Check.fine(before + least + behind);
        Check.fine(before + greatest + behind);
        Check.fine(before + String.format("%04d", greatest) + behind);
        Check.faultAt(before + "^" + (greatest + 1) + behind, 2);
        Check.faultAt(before + "^9999" + behind, 2);
        Check.faultAt(before + "^10000" + behind, 2);
        Check.faultAt(before + "^" + String.format("%05d", greatest) + behind, 2);
        // below 0 there is no number: the sign is no token
        Check.faultAt(before + "^" + (least - 1) + behind, least == 0 ? 1 : 2);
    }

    /** A line that may stand so many times, and the next one, whatever follows its first token. */
    private static void atMost(String head, String line, int most, String word, int what) {
        FullHouse x = Check.houseOf(head + line.repeat(most));
        Check.due("how many", most, () -> x.count(what));
        Check.faultAt(head + line.repeat(most) + "^" + line, 2);
        Check.faultAt(head + line.repeat(most) + "^" + word + ";", 2);
        Check.faultAt(head + line.repeat(most) + " ^" + word + " 99999 X", 2);
        Check.faultAt(head + line.repeat(most) + "\n^" + word, 2);
    }

    private static void people() {
        Check.terms("A HOUSE has PEOPLE 0, 1 .. (at most 6)");
        FullHouse none = Check.houseOf("");
        Check.due("none", 0, () -> none.count(0));
        Check.due("person 0 of none", Check.NO_SUCH, () -> none.person(0, 0));
        atMost("", "person 3;", 6, "person", 0);
        FullHouse six = Check.houseOf("person 1;person 2;person 3;person 4;person 5;person 6;");
        for (int person = 0; person < 6; person++) {
            int of = person;
            Check.due("person " + person, person + 1, () -> six.person(of, 0));
        }
        Check.due("person 6", Check.NO_SUCH, () -> six.person(6, 0));

        Check.terms("each with so many HOURS a day (0 to 24)");
        range("person ", 0, 24, ";");
        range("person ", 0, 24, " drawn 5;");
        Check.due("0 hours", 0, () -> Check.houseOf("person 0;").person(0, 0));
        Check.due("24 hours", 24, () -> Check.houseOf("person 24;").person(0, 0));

        Check.terms("a CHANCE (0 to 1000, of a thousand) to be drawn");
        range("person 5 drawn ", 0, 1000, ";");
        Check.due("chance 0", 0, () -> Check.houseOf("person 5 drawn 0;").person(0, 1));
        Check.due("chance 1000", 1000, () -> Check.houseOf("person 5 drawn 1000;").person(0, 1));

        Check.terms("CHANCE 0 without");
        FullHouse without = Check.houseOf("person 5 drawn 7;person 6;person 7 drawn 8;");
        Check.due("with", 7, () -> without.person(0, 1));
        Check.due("without", 0, () -> without.person(1, 1));
        Check.due("with again", 8, () -> without.person(2, 1));
        // nothing of the house ahead of it is left over
        Check.feed(without, "person 5;person 6 drawn 9;");
        Check.due("another house", 0, () -> without.house(26));
        Check.due("without, where there was one", 0, () -> without.person(0, 1));
        Check.due("with, where there was none", 9, () -> without.person(1, 1));
    }

    private static void works() {
        Check.terms("WORKS 0, 1 .. (at most 8)");
        atMost("", "work 3 1;", 8, "work", 1);
        FullHouse eight = Check.houseOf("work 0 1;work 1 1;work 2 1;work 3 1;work 4 1;work 5 1;work 6 1;work 7 1;");
        for (int work = 0; work < 8; work++) {
            int of = work;
            Check.due("work " + work, work, () -> eight.work(of, 0));
        }
        Check.due("work 8", Check.NO_SUCH, () -> eight.work(8, 0));
        Check.due("none", Check.NO_SUCH, () -> Check.houseOf("person 5;").work(0, 0));

        Check.terms("begun at an HOUR (0 to 23)");
        range("work ", 0, 23, " 1;");

        Check.terms("LONG so many hours (1 to 8; they end by 24)");
        for (int hour = 0; hour <= 23; hour++) {
            int longest = Math.min(8, 24 - hour);
            range("work " + hour + " ", 1, longest, ";");
            FullHouse x = Check.houseOf("work " + hour + " " + longest + ";");
            Check.due("the longest at " + hour, longest, () -> x.work(0, 1));
        }

        Check.terms("a LONG beyond 24");
        Check.faultAt("work 17 ^8;", 2);
        Check.faultAt("work 23 ^2;", 2);
        Check.fine("work 16 8;work 23 1;");
    }

    private static void skillsAndTeachings() {
        Check.terms("A SKILL (0 to 9) of each at each WORK; 0 (without one that is told): he can't.");
        FullHouse x = Check.houseOf("person 8;person 8;work 1 1;work 2 1;can 0 0 9;can 1 1 1;");
        int[][] skills = {{9, 0}, {0, 1}};
        for (int person = 0; person < 2; person++) {
            for (int work = 0; work < 2; work++) {
                int p = person;
                int w = work;
                Check.due("skill " + p + " " + w, skills[p][w], () -> x.skill(p, w));
            }
        }
        Check.due("without one he can't", 1, () -> x.person(0, 2));
        Check.due("with 1 he can", 2, () -> x.person(1, 2));

        Check.terms("(SKILL of 'can' 1 to 9)");
        range(ONE + "can 0 0 ", 1, 9, ";");

        Check.terms("TEACHINGS 0, 1 .. (at most 8)");
        StringBuilder text = new StringBuilder("person 8;person 8;").append("work 1 1;".repeat(8));
        for (int work = 0; work < 8; work++) {
            text.append("learn 0 ").append(work).append(" 9 ").append(90 + work).append(";");
        }
        FullHouse eight = Check.houseOf(text.toString());
        Check.due("eight", 8, () -> eight.count(2));
        for (int teaching = 0; teaching < 8; teaching++) {
            int of = teaching;
            Check.due("work of teaching " + teaching, teaching, () -> eight.teaching(of, 1));
            Check.due("pains of teaching " + teaching, 90 + teaching, () -> eight.teaching(of, 3));
        }
        Check.due("teaching 8", Check.NO_SUCH, () -> eight.teaching(8, 0));
        Check.faultAt(text + "^learn 1 0 1 1;", 2);
        Check.faultAt(text + "^learn;", 2);
        Check.faultAt(text + "^learn 0 0 1 1;", 2);
        Check.faultAt(text + "^learn 9 9 99 999;", 2);
        Check.fine(text + "can 1 7 1;");

        Check.terms("a SKILL (1 to 9) then, at so many PAINS (1 to 99)");
        range(ONE + "learn 0 0 ", 1, 9, " 5;");
        range(ONE + "learn 0 0 5 ", 1, 99, ";");

        Check.terms("a PERSON may learn a WORK at which his SKILL is 0");
        Check.faultAt(ONE + "can 0 0 1;learn 0 ^0 2 2;", 4);
        FullHouse learner = Check.houseOf(ONE + "learn 0 0 9 1;");
        Check.due("his skill is 0 still", 0, () -> learner.skill(0, 0));
        Check.due("he can't yet", 0, () -> learner.person(0, 2));

        Check.terms("FORGET: so many weeks (1 to 50; 0 without: never)");
        range("forget ", 1, 50, ";");
        Check.due("without", 0, () -> Check.houseOf("person 5;").count(3));
        Check.due("the least", 1, () -> Check.houseOf("forget 1;").count(3));
        Check.due("the most", 50, () -> Check.houseOf("forget 50;").count(3));
    }

    private static void tape() {
        Check.terms("A TEXT of at most 800 bytes tells it.");
        Check.fine("forget 9;" + " ".repeat(791));
        Check.fine(" ".repeat(791) + "forget 9;");
        Check.due("its last line", 9, () -> Check.houseOf(" ".repeat(791) + "forget 9;").count(3));
        Check.fault(" ".repeat(792) + "forget 9", 1, 800);
        Check.faultAt(" ".repeat(790) + "forget 9;^;", 1);
        Check.faultAt(" ".repeat(790) + "forget ^51;", 2);
        Check.fault("person " + "0".repeat(792) + "8", 2, 7);
        Check.fault("a".repeat(800), 1, 0);

        Check.promise(2, "Twenty bytes come behind the tape, of each number the highest first: how many it has");
        FullHouse x = new FullHouse();
        // 'person 7 drawn 321; ' and 'work 3 5;forget 44;\n'
        Check.due("twenty", 20, () -> x.feed(0x70657273, 0x6f6e2037, 0x20647261, 0x776e2033, 0x32313b20));
        Check.due("the tape has", 20, () -> x.count(4));
        Check.due("forty", 40, () -> x.feed(0x776f726b, 0x20332035, 0x3b666f72, 0x67657420, 0x34343b0a));
        Check.due("the tape has more", 40, () -> x.count(4));
        Check.due("house", 0, () -> x.house(40));
        int[] want = {7, 321, 3, 5, 44};
        int[] got = {x.person(0, 0), x.person(0, 1), x.work(0, 0), x.work(0, 1), x.count(3)};
        for (int i = 0; i < want.length; i++) {
            int of = i;
            Check.due("what was told, " + i, want[i], () -> got[of]);
        }

        Check.promise(2, "NONE, and none come, if it would have more than 800.");
        FullHouse full = new FullHouse();
        Check.feed(full, "person 24;" + " ".repeat(770));
        Check.due("780", 780, () -> full.count(4));
        Check.due("just 800: '           forget 7;'", 800,
                () -> full.feed(0x20202020, 0x20202020, 0x20202066, 0x6f726765, 0x7420373b));
        for (int i = 0; i < 3; i++) {
            Check.due("820", -1, () -> full.feed(0x70657273, 0x6f6e2037, 0x20647261, 0x776e2033, 0x32313b20));
            Check.due("none came", 800, () -> full.count(4));
        }
        Check.due("the tape is as it was", 0, () -> full.house(800));
        Check.due("its first line", 24, () -> full.person(0, 0));
        Check.due("its last line", 7, () -> full.count(3));
        Check.due("an empty tape takes twenty again", 20, () -> full.feed(0, 0, 0, 0, 0));
    }

    /** All 256 bytes, as the only one, and behind a number. */
    private static void bytes() {
        Check.terms("the sign ; and blanks (32, 10) between them, which count for nothing");
        for (int sign = 0; sign < 256; sign++) {
            boolean blank = sign == 32 || sign == 10;
            boolean digit = sign >= '0' && sign <= '9';
            String text = String.valueOf((char) sign);
            Check.fault(text, blank ? 0 : 1, blank ? -1 : 0);
            int kind = sign == ';' ? 0 : digit ? 2 : 1;
            int place = sign == ';' ? -1 : digit ? 7 : blank ? 9 : 8;
            Check.fault("person 8" + text, kind, place);
        }
        Check.fine("\n \nperson\n\n8 \n;\n");
        Check.fine("\n".repeat(800));
        Check.fine("person8drawn300;work6\n2;work9 1;can0 0 5;learn0\n1 5 5;forget7;");
        Check.faultAt("^per son 8;", 1);
        Check.faultAt("person 1 ^2;", 1);
        Check.faultAt("person 1\n^2;", 1);

        Check.terms("words (a .. z, the longest row)");
        for (String word : new String[] {"person", "work", "can", "learn", "forget"}) {
            Check.faultAt("^" + word + "a 1;", 1);
            Check.faultAt("^" + word + "z 1;", 1);
            Check.faultAt("^a" + word + " 1;", 1);
            Check.faultAt("^" + word + word + " 1;", 1);
            Check.faultAt("^" + word.substring(1) + " 1;", 1);
            Check.faultAt("^" + word.substring(0, word.length() - 1) + " 1;", 1);
            Check.faultAt("^" + word.toUpperCase() + " 1;", 1);
            for (int i = 0; i < word.length(); i++) {
                Check.faultAt("^" + word.substring(0, i) + "q" + word.substring(i + 1) + " 1;", 1);
            }
            Check.faultAt(word + "^`1;", 1);
            Check.faultAt(word + "^{1;", 1);
            Check.faultAt(word + "^A1;", 1);
        }
        Check.faultAt("person 8 ^drawna 1;", 1);
        Check.faultAt("person 8 ^draw 1;", 1);
        Check.faultAt("person 8 ^rawn 1;", 1);
        Check.faultAt("person 8 ^brawn 1;", 1);
        Check.faultAt("person 8 ^drawm 1;", 1);

        Check.terms("NUMBERS (1 to 4 digits)");
        for (String number : new String[] {"8", "08", "008", "0008"}) {
            Check.fine("person " + number + ";");
            Check.fine("person 1 drawn " + number + ";");
            Check.fine("work " + number + " " + number + ";");
            Check.fine("forget " + number + ";");
        }
        Check.fine(ONE + "can 0000 0000 0005;");
        Check.fine(ONE + "learn 0000 0000 0005 0005;");

        Check.terms("a NUMBER of 5 digits or more");
        Check.faultAt("person ^00008;", 2);
        Check.faultAt("person 8 drawn ^00008;", 2);
        Check.faultAt("work ^00008 1;", 2);
        Check.faultAt("work 8 ^00001;", 2);
        Check.faultAt(ONE + "can ^00000 0 5;", 2);
        Check.faultAt(ONE + "can 0 ^00000 5;", 2);
        Check.faultAt(ONE + "can 0 0 ^00005;", 2);
        Check.faultAt(ONE + "learn ^00000 0 5 5;", 2);
        Check.faultAt(ONE + "learn 0 ^00000 5 5;", 2);
        Check.faultAt(ONE + "learn 0 0 ^00005 5;", 2);
        Check.faultAt(ONE + "learn 0 0 5 ^00005;", 2);
        Check.faultAt("forget ^00005;", 2);
        Check.faultAt("person ^4294967304;", 2);
        Check.faultAt("person ^18446744073709551624;", 2);
    }

    /** Each token of a line left out with all behind it, and each changed to one that can't stand there. */
    private static void lines() {
        Check.terms("HOUSE: LINE*.");
        Check.fine("");
        Check.fine("forget 3;work 1 1;person 5;can 0 0 1;work 2 2;learn 0 1 1 1;person 6;can 1 1 1;");

        Check.terms("1 a TOKEN that can't stand there, or is none (the text's length where it ends too soon)");
        for (String line : new String[] {"person 8 drawn 3 ;", "work 2 3 ;", "can 0 0 5 ;", "learn 0 0 5 7 ;",
                "forget 9 ;"}) {
            Check.fine(ONE + line);
            String[] tokens = line.split(" ");
            for (int at = 0; at < tokens.length; at++) {
                String ahead = ONE;
                for (int i = 0; i < at; i++) {
                    ahead += tokens[i] + " ";
                }
                if (at > 0) {
                    Check.fault(ahead.stripTrailing(), 1, ahead.length() - 1);
                    Check.fault(ahead, 1, ahead.length());
                    Check.fault(ahead + "\n\n  ", 1, ahead.length() + 4);
                }
                for (String other : unfit(tokens[at])) {
                    Check.faultAt(ahead + "^" + other, 1);
                    Check.faultAt(ahead + "^" + other + " 1 1;", 1);
                }
            }
        }
        // the text ends where n says, though the tape goes on
        FullHouse x = new FullHouse();
        Check.feed(x, "person 12;");
        Check.due("cut behind a number's first digit", 1, () -> x.house(8));
        Check.due("its place", 8, x::fault);
        Check.feed(x, "person 12;");
        Check.due("cut in a word", 1, () -> x.house(3));
        Check.due("its place", 0, x::fault);
        Check.feed(x, "person 12;");
        Check.due("cut ahead of its ;", 1, () -> x.house(9));
        Check.due("its place", 9, x::fault);
        Check.feed(x, "person 12;");
        Check.due("not cut", 0, () -> x.house(10));

        Check.terms("('person' HOURS ['drawn' CHANCE] | 'work' HOUR LONG");
        Check.faultAt("person 8 ; ^drawn 3;", 1);
        Check.faultAt("person 8 drawn 3 ^drawn 3;", 1);
        Check.faultAt("person ^drawn 3;", 1);
        Check.faultAt("work 8 1 ^drawn 3;", 1);
    }

    private static List<String> unfit(String token) {
        List<String> others = new ArrayList<>(List.of("!", "x", "drawn", "persons", "\u00ff", "\t"));
        boolean number = token.matches("\\d+");
        if (number) {
            others.addAll(List.of(";", "person", "can", "-1", "+1", ".5"));
        } else {
            others.addAll(List.of("7", "0000", "12345", "1234567890123"));
        }
        if (token.equals("drawn")) {
            others.remove("drawn");
        } else if (!number && !token.equals(";")) {
            others.add(";");
        }
        if (token.equals(";")) {
            others.addAll(List.of("person", ":", ","));
        }
        return others;
    }

    private static void faults() {
        Check.terms("FAULTS, the first along the text, at a TOKEN's first byte, of one TOKEN the least");
        // the first along the text, whichever is less
        Check.faultAt("forget 1;^forget 99;person 25;X", 5);
        Check.faultAt("person ^25;can 0 0 0;X", 2);
        Check.faultAt("can ^0 0 0;person 25;X", 3);
        Check.faultAt(ONE + "can 0 0 1;can 0 ^0 0;person 25;can 7 7 7;X", 4);
        Check.faultAt("person 1 drawn 1000;person 1 drawn ^1;can 7 7 7;", 5);
        Check.faultAt("^X person 25;", 1);
        // of one token the least
        Check.faultAt("person 8 ^12345;", 1);
        Check.faultAt("person 1;".repeat(6) + "work ^person 1;", 1);
        Check.faultAt("forget 5;person ^forget;", 1);
        Check.faultAt("forget 5;person 1 ^forget;", 1);
        Check.faultAt("can ^00000 0 1;", 2);
        Check.faultAt("can ^12345 0 1;", 2);
        Check.faultAt("person 1;can 0 ^00000 1;", 2);
        Check.faultAt(ONE + "can 0 0 1;can 0 ^00000 1;", 2);
        Check.faultAt("person 1 drawn 1000;person 1 drawn ^1001;", 2);
        Check.faultAt("person 1 drawn 1000;person 1 drawn ^00001;", 2);
        Check.faultAt("person 1 drawn 1000;person 1 drawn^;", 1);
        Check.faultAt("forget 5;^forget 0;", 5);
        Check.faultAt("forget 5;^forget", 5);
        Check.faultAt("forget 5;^forget;", 5);

        Check.terms("the first TOKEN of the 7th PERSON, the 9th WORK, the 9th TEACHING");
        Check.faultAt("person 1 drawn 1000;" + "person 1;".repeat(5) + "^person 99 drawn 1;", 2);
        Check.faultAt("work 1 1;".repeat(8) + " \n ^work 24 1;", 2);

        Check.terms("3 a PERSON, a WORK that isn't told ahead");
        for (String word : new String[] {"can", "learn"}) {
            String rest = word.equals("can") ? " 5;" : " 5 5;";
            Check.fine("person 1;person 1;work 1 1;work 1 1;" + word + " 1 1" + rest);
            for (String number : new String[] {"2", "5", "6", "7", "8", "10", "31", "32", "33", "99", "1000", "9999"}) {
                Check.faultAt("person 1;person 1;work 1 1;work 1 1;" + word + " ^" + number + " 0" + rest, 3);
                Check.faultAt("person 1;person 1;work 1 1;work 1 1;" + word + " 0 ^" + number + rest, 3);
            }
            Check.faultAt(word + " ^0 0" + rest, 3);
            Check.faultAt("work 1 1;" + word + " ^0 0" + rest + "person 1;", 3);
            Check.faultAt("person 1;" + word + " 0 ^0" + rest + "work 1 1;", 3);
            Check.faultAt(ONE + word + " ^1 9" + rest, 3);
            Check.fine("person 1;".repeat(6) + "work 1 1;".repeat(8) + word + " 5 7" + rest);
            Check.faultAt("person 1;".repeat(6) + "work 1 1;".repeat(8) + word + " ^6 7" + rest, 3);
            Check.faultAt("person 1;".repeat(6) + "work 1 1;".repeat(8) + word + " 5 ^8" + rest, 3);
        }

        Check.terms("4 a WORK (behind its PERSON) at which he has a SKILL already, or that he may learn already");
        for (String first : new String[] {"can 1 7 1;", "learn 1 7 1 1;"}) {
            String ahead = "person 1;".repeat(3) + "work 1 1;".repeat(8) + first;
            Check.faultAt(ahead + "can 1 ^7 0;", 4);
            Check.faultAt(ahead + "learn 1 ^7 0 0;", 4);
            Check.faultAt(ahead + "can 1 ^7", 4);
            Check.faultAt(ahead + "learn 1 ^7", 4);
            Check.fine(ahead + "can 0 7 1;can 1 6 1;can 2 7 1;learn 0 6 1 1;learn 1 5 1 1;");
            Check.fine(ahead + "learn 0 7 1 1;learn 1 6 1 1;learn 2 7 1 1;can 0 6 1;can 1 5 1;");
        }

        Check.terms("5 a second 'forget', a CHANCE by which all together are above 1000.");
        Check.faultAt("forget 1;^forget 1;", 5);
        Check.faultAt("forget 50;person 5;work 1 1;^forget 1;", 5);
        Check.fine("person 5 drawn 999;person 5 drawn 1;person 5 drawn 0;person 5;");
        Check.faultAt("person 5 drawn 999;person 5 drawn ^2;", 5);
        Check.faultAt("person 5 drawn 999;person 5 drawn 1;person 5 drawn 0;person 5;person 5 drawn ^1;", 5);
        Check.faultAt("person 5 drawn 1;person 5 drawn ^1000;", 5);
        Check.fine("person 5 drawn 200;".repeat(5) + "person 5 drawn 0;");
        Check.faultAt("person 5 drawn 200;".repeat(5) + "person 5 drawn ^1;", 5);
    }

    private static void newObject() {
        Check.promise(1, "No PEOPLE, no WORKS.");
        FullHouse x = new FullHouse();
        for (int what = 0; what <= 8; what++) {
            int of = what;
            Check.due("count " + what, 0, () -> x.count(of));
        }
        Check.due("fault", -1, x::fault);
        Check.due("person", Check.NO_SUCH, () -> x.person(0, 0));
        Check.due("work", Check.NO_SUCH, () -> x.work(0, 0));
        Check.due("skill", Check.NO_SUCH, () -> x.skill(0, 0));
        Check.due("teaching", Check.NO_SUCH, () -> x.teaching(0, 0));
        Check.due("a text of none", Check.ILLEGAL, () -> x.house(1));

        Check.terms("`NONE = -1`: There is none.");
        Check.due("NONE", -1, () -> FullHouse.NONE);
    }

    private static void house() {
        Check.promise(3, "The tape's first n bytes (it is empty then) are a HOUSE, all anew: 0");
        FullHouse x = new FullHouse();
        Check.due("no bytes of an empty tape", 0, () -> x.house(0));
        Check.feed(x, "person 7;person 8 drawn 5;work 1 1;can 0 0 5;learn 1 0 1 1;forget 5; zz");
        Check.due("all but the last bytes", 0, () -> x.house(69));
        Check.due("the tape is empty", 0, () -> x.count(4));
        Check.due("two people", 2, () -> x.count(0));
        Check.feed(x, "person 7;");
        Check.due("what was behind isn't there", 20, () -> x.count(4));
        Check.due("all of the tape", 0, () -> x.house(20));
        int[] counts = {1, 0, 0, 0, 0, 0, 0, 0, 0};
        for (int what = 0; what < counts.length; what++) {
            int of = what;
            Check.due("all anew: count " + what, counts[what], () -> x.count(of));
        }
        Check.due("he can nothing", 0, () -> x.person(0, 2));
        Check.feed(x, "person 7;person 8;work 1 1;");
        Check.due("the works again, without skills", 0, () -> x.house(27));
        Check.due("skill of old", 0, () -> x.skill(0, 0));
        Check.due("can of old", 0, () -> x.person(0, 2));
        Check.due("chance of old", 0, () -> x.person(1, 1));
        Check.due("who can of old", 0, () -> x.work(0, 2));
        Check.feed(x, "person 7;person 8;work 1 1;learn 1 0 2 2;");
        Check.due("what he might learn of old isn't told", 0, () -> x.house(41));
        Check.feed(x, "person 7;");
        Check.due("no bytes of a tape that has some", 0, () -> x.house(0));
        Check.due("the tape is empty, too", 0, () -> x.count(4));
        Check.due("nobody", 0, () -> x.count(0));

        goneBehindAHouse();
        Check.promise(3, "IllegalArgumentException: the tape has not so many, n below 0 (nothing changes).");
        FullHouse y = Check.houseOf("person 7;");
        Check.due("one of none", Check.ILLEGAL, () -> y.house(1));
        Check.due("below 0 of none", Check.ILLEGAL, () -> y.house(-1));
        Check.feed(y, "person 8;person 9;");
        for (int n : new int[] {-1, 21, 40, 800, 801}) {
            Check.due("house " + n, Check.ILLEGAL, () -> y.house(n));
        }
        for (int n : Check.FAR) {
            Check.due("house " + n, Check.ILLEGAL, () -> y.house(n));
        }
        Check.due("the tape stays", 20, () -> y.count(4));
        Check.due("no text was refused", 0, () -> y.count(5));
        Check.due("the house stays", 7, () -> y.person(0, 0));
        Check.due("the text is there still", 0, () -> y.house(20));
        Check.due("it is the house", 9, () -> y.person(1, 0));
    }

    private static void goneBehindAHouse() {
        Check.promise(3, "The TOLD ROW, what is kept, WEEKS, the image are gone (STATUS stays).");
        String same = ONE + "can 0 0 1;";
        for (String text : new String[] {same, "person 5;person 5;work 1 1;work 2 2;", "work 1 1;", "person 5;", ""}) {
            FullHouse x = Check.houseOf(same);
            Check.feed(x, "X");
            x.house(1);
            x.tell(0, 0);
            x.tell(1, 0);
            x.on(1);
            x.day(1);
            x.begin(1);
            x.on(3);
            x.image();
            Check.feed(x, text);
            Check.due("house of " + text, 0, () -> x.house(text.length()));
            int works = x.count(1);
            int people = x.count(0);
            Check.due("told row behind " + text, works == 0 ? -1 : 1, () -> x.judge((1 << people) - 1));
            Check.due("what is kept behind " + text, Check.NO_SUCH, () -> x.does(0));
            Check.due("weeks behind " + text, 0, () -> x.count(8));
            Check.due("week 0 behind " + text, Check.NO_SUCH, () -> x.week(0, 0));
            Check.due("knows behind " + text, Check.NO_SUCH, () -> x.knows(0));
            Check.due("an image behind " + text, 0, () -> Check.bit(x.image()));
            Check.due("the image behind " + text, 0, () -> Check.bit(x.restore()));
            for (int status = 5; status <= 7; status++) {
                int of = status;
                Check.due("status behind " + text, 1, () -> x.count(of));
            }
            Check.due("no weeks behind " + text, -1, () -> x.on(0));
        }
    }

    private static void faultPlaces() {
        Check.promise(4, "The place of the latest house()'s FAULT; NONE without.");
        FullHouse x = new FullHouse();
        Check.due("none was", -1, x::fault);
        Check.due("the empty house", 0, () -> x.house(0));
        Check.due("without", -1, x::fault);
        Check.feed(x, "person 25;");
        Check.due("a fault", 2, () -> x.house(10));
        Check.due("at 7", 7, x::fault);
        Check.due("one that throws", Check.ILLEGAL, () -> x.house(1));
        Check.due("at 7 still", 7, x::fault);
        Check.feed(x, "X");
        Check.due("at 7 as the tape is fed", 7, x::fault);
        Check.due("another fault", 1, () -> x.house(1));
        Check.due("at 0", 0, x::fault);
        Check.due("no fault", 0, () -> x.house(0));
        Check.due("without again", -1, x::fault);
        Check.due("one that throws, without", Check.ILLEGAL, () -> x.house(-1));
        Check.due("without still", -1, x::fault);
        Check.fault(" ".repeat(799) + "x", 1, 799);
        Check.fault("person" + " ".repeat(794), 1, 800);
    }

    private static void counts() {
        Check.promise(5, "5 to 7 STATUS 0 to 2");
        FullHouse x = Check.houseOf("person 7;");
        Check.feed(x, "X");
        x.house(1);
        for (int i = 0; i < 2; i++) {
            x.tell(0, 0);
        }
        for (int i = 0; i < 3; i++) {
            x.on(0);
        }
        for (int what = 5; what <= 7; what++) {
            int of = what;
            Check.due("status of " + what, what - 4, () -> x.count(of));
        }

        Check.promise(5, "8 WEEKS that have been.");
        Check.due("none have begun", 0, () -> x.count(8));
        x.begin(1);
        Check.due("begun", 0, () -> x.count(8));
        x.on(1);
        Check.due("one", 1, () -> x.count(8));

        Check.promise(5, "NoSuchElementException: another what.");
        Check.due("the first", 1, () -> x.count(0));
        Check.due("below", Check.NO_SUCH, () -> x.count(-1));
        Check.due("above", Check.NO_SUCH, () -> x.count(9));
        for (int what : Check.FAR) {
            Check.due("count " + what, Check.NO_SUCH, () -> x.count(what));
        }
    }

    private static void whatWasTold() {
        String text = "person 24 drawn 1000;person 0;work 0 8;work 23 1;can 0 1 9;can 1 0 1;learn 0 0 9 99;learn 1 1 1 1;";
        FullHouse x = Check.houseOf(text);
        Check.promise(6, "0 HOURS, 1 CHANCE, 2 WORKS that he can do (bits).");
        int[][] people = {{24, 1000, 2}, {0, 0, 1}};
        Check.promise(6, "NoSuchElementException: no such PERSON (as everywhere), what.");
        for (int person = 0; person < 2; person++) {
            for (int what = 0; what < 3; what++) {
                int p = person;
                int of = what;
                Check.due("person " + p + " " + of, people[p][of], () -> x.person(p, of));
            }
        }
        outside("person", 2, 3, (person, what) -> x.person(person, what));

        Check.promise(7, "NoSuchElementException: no such WORK (as everywhere), what.");
        int[][] works = {{0, 8, 2}, {23, 1, 1}};
        for (int work = 0; work < 2; work++) {
            for (int what = 0; what < 3; what++) {
                int w = work;
                int of = what;
                Check.due("work " + w + " " + of, works[w][of], () -> x.work(w, of));
            }
        }
        outside("work", 2, 3, (work, what) -> x.work(work, what));

        Check.promise(8, "A SKILL.");
        int[][] skills = {{0, 9}, {1, 0}};
        for (int person = 0; person < 2; person++) {
            for (int work = 0; work < 2; work++) {
                int p = person;
                int w = work;
                Check.due("skill " + p + " " + w, skills[p][w], () -> x.skill(p, w));
            }
        }
        outside("skill", 2, 2, (person, work) -> x.skill(person, work));

        Check.promise(9, "NoSuchElementException: there is none, another what.");
        int[][] teachings = {{0, 0, 9, 99}, {1, 1, 1, 1}};
        for (int teaching = 0; teaching < 2; teaching++) {
            for (int what = 0; what < 4; what++) {
                int t = teaching;
                int of = what;
                Check.due("teaching " + t + " " + of, teachings[t][of], () -> x.teaching(t, of));
            }
        }
        outside("teaching", 2, 4, (teaching, what) -> x.teaching(teaching, what));
        FullHouse none = Check.houseOf(ONE + "can 0 0 1;");
        Check.due("there is none", Check.NO_SUCH, () -> none.teaching(0, 0));
    }

    private interface Pair {
        int answer(int first, int second);
    }

    /** Both arguments beside what there is, each alone and together; the last that there is answers. */
    private static void outside(String name, int firsts, int seconds, Pair call) {
        for (int far : Check.FAR) {
            Check.due(name + " " + far + " 0", Check.NO_SUCH, () -> call.answer(far, 0));
            Check.due(name + " 0 " + far, Check.NO_SUCH, () -> call.answer(0, far));
            Check.due(name + " twice " + far, Check.NO_SUCH, () -> call.answer(far, far));
        }
        Check.due(name + " -1 0", Check.NO_SUCH, () -> call.answer(-1, 0));
        Check.due(name + " 0 -1", Check.NO_SUCH, () -> call.answer(0, -1));
        Check.due(name + " behind the last", Check.NO_SUCH, () -> call.answer(firsts, 0));
        Check.due(name + " behind the last what", Check.NO_SUCH, () -> call.answer(0, seconds));
        Check.due(name + " behind both", Check.NO_SUCH, () -> call.answer(firsts, seconds));
        Check.due(name + " the last", 1, () -> call.answer(firsts - 1, seconds - 1) >= 0 ? 1 : 0);
    }

    public static void main(String[] args) throws IOException {
        Check.readDocument(args);
        people();
        works();
        skillsAndTeachings();
        tape();
        bytes();
        lines();
        faults();
        newObject();
        house();
        faultPlaces();
        counts();
        whatWasTold();
        Check.allPromises(1, 9);
        Check.end();
    }
}
