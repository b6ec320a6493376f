import java.nio.charset.StandardCharsets;
import java.util.ArrayList;
import java.util.Arrays;
import java.util.HashMap;
import java.util.List;
import java.util.Map;
import java.util.NoSuchElementException;

/**
 * The document by trying everything: slow, plain, and written apart from FullHouse, so that the two
 * can be held against each other. Rows are made one by one, orders of people too.
 */
final class Model {
    private static final int NONE = -1;

    private record Token(String text, int start) { }

    private record Person(int hours, int chance) { }

    private record Work(int hour, int length) {
        boolean meets(Work other) {
            return hour < other.hour + other.length && other.hour < hour + length;
        }
    }

    private record Teaching(int person, int work, int skill, int pains) { }

    private static final class Fault extends Exception {
        private static final long serialVersionUID = 1;
        final int kind;
        final int place;

        Fault(int kind, int place) {
            this.kind = kind;
            this.place = place;
        }
    }

    private record Week(int away, int[] row) { }

    private static final class Story {
        int seed;
        final List<Week> weeks = new ArrayList<>();
        boolean[][] knows;

        Story copy() {
            Story other = new Story();
            other.seed = seed;
            other.weeks.addAll(weeks);
            other.knows = new boolean[knows.length][];
            for (int i = 0; i < knows.length; i++) {
                other.knows[i] = knows[i].clone();
            }
            return other;
        }
    }

    /** What a text tells. */
    private static final class Told {
        final List<Person> people = new ArrayList<>();
        final List<Work> works = new ArrayList<>();
        final List<Teaching> teachings = new ArrayList<>();
        final int[][] skills = new int[6][8];
        int forget;
    }

    private final StringBuilder tape = new StringBuilder();
    private Told house = new Told();
    private int faultPlace = NONE;
    private final int[] status = new int[3];
    private int[] row;
    private int[] toldRow = new int[0];
    private Story story;
    private Story image;

    int feed(int... numbers) {
        if (tape.length() + 20 > 800) {
            return NONE;
        }
        for (int number : numbers) {
            for (int i = 3; i >= 0; i--) {
                tape.append((char) (number >>> 8 * i & 255));
            }
        }
        return tape.length();
    }

    int house(int n) {
        if (n < 0 || n > tape.length()) {
            throw new IllegalArgumentException();
        }
        String text = tape.substring(0, n);
        tape.setLength(0);
        try {
            house = read(text);
        } catch (Fault fault) {
            faultPlace = fault.place;
            status[0]++;
            return fault.kind;
        }
        faultPlace = NONE;
        row = null;
        story = null;
        image = null;
        toldRow = new int[house.works.size()];
        Arrays.fill(toldRow, NONE);
        return 0;
    }

    private static List<Token> tokens(String text) {
        List<Token> found = new ArrayList<>();
        int at = 0;
        while (at < text.length()) {
            char sign = text.charAt(at);
            int end = at + 1;
            if (sign >= 'a' && sign <= 'z') {
                while (end < text.length() && text.charAt(end) >= 'a' && text.charAt(end) <= 'z') {
                    end++;
                }
            } else if (sign >= '0' && sign <= '9') {
                while (end < text.length() && text.charAt(end) >= '0' && text.charAt(end) <= '9') {
                    end++;
                }
            }
            if (sign != ' ' && sign != '\n') {
                found.add(new Token(text.substring(at, end), at));
            }
            at = end;
        }
        found.add(new Token("", text.length()));
        return found;
    }

    /** Each line by a pattern: small letters stand for themselves, capitals for numbers. */
    private static Told read(String text) throws Fault {
        Told told = new Told();
        List<Token> tokens = tokens(text);
        int at = 0;
        while (!tokens.get(at).text.isEmpty()) {
            Token first = tokens.get(at);
            String[] pattern = switch (first.text) {
                case "person" -> new String[] {"HOURS"};
                case "work" -> new String[] {"HOUR", "LONG"};
                case "can" -> new String[] {"PERSON", "WORK", "SKILL"};
                case "learn" -> new String[] {"PERSON", "WORK", "SKILL", "PAINS"};
                case "forget" -> new String[] {"FORGET"};
                default -> throw new Fault(1, first.start);
            };
            boolean full = first.text.equals("person") && told.people.size() == 6
                    || first.text.equals("work") && told.works.size() == 8
                    || first.text.equals("learn") && told.teachings.size() == 8;
            if (full) {
                throw new Fault(2, first.start);
            }
            if (first.text.equals("forget") && told.forget > 0) {
                throw new Fault(5, first.start);
            }
            at++;
            List<Integer> numbers = new ArrayList<>();
            for (String name : pattern) {
                numbers.add(number(told, numbers, name, tokens.get(at++)));
            }
            int chance = 0;
            if (first.text.equals("person") && tokens.get(at).text.equals("drawn")) {
                at++;
                chance = number(told, numbers, "CHANCE", tokens.get(at++));
            }
            if (!tokens.get(at).text.equals(";")) {
                throw new Fault(1, tokens.get(at).start);
            }
            at++;
            add(told, first.text, numbers, chance);
        }
        return told;
    }

    private static void add(Told told, String word, List<Integer> n, int chance) {
        switch (word) {
            case "person" -> told.people.add(new Person(n.get(0), chance));
            case "work" -> told.works.add(new Work(n.get(0), n.get(1)));
            case "can" -> told.skills[n.get(0)][n.get(1)] = n.get(2);
            case "learn" -> told.teachings.add(new Teaching(n.get(0), n.get(1), n.get(2), n.get(3)));
            default -> told.forget = n.get(0);
        }
    }

    private static int number(Told told, List<Integer> ahead, String name, Token token) throws Fault {
        if (!token.text.matches("[0-9]+")) {
            throw new Fault(1, token.start);
        }
        if (token.text.length() > 4) {
            throw new Fault(2, token.start);
        }
        int n = Integer.parseInt(token.text);
        boolean right = switch (name) {
            case "HOURS" -> n <= 24;
            case "CHANCE" -> n <= 1000;
            case "HOUR" -> n <= 23;
            case "LONG" -> n >= 1 && n <= 8 && ahead.get(0) + n <= 24;
            case "SKILL" -> n >= 1 && n <= 9;
            case "PAINS" -> n >= 1 && n <= 99;
            case "FORGET" -> n >= 1 && n <= 50;
            default -> true;
        };
        if (!right) {
            throw new Fault(2, token.start);
        }
        if (name.equals("PERSON") && n >= told.people.size()
                || name.equals("WORK") && n >= told.works.size()) {
            throw new Fault(3, token.start);
        }
        if (name.equals("WORK")) {
            int person = ahead.get(0);
            boolean learns = told.teachings.stream().anyMatch(t -> t.person == person && t.work == n);
            if (learns || told.skills[person][n] > 0) {
                throw new Fault(4, token.start);
            }
        }
        if (name.equals("CHANCE") && n + told.people.stream().mapToInt(p -> p.chance).sum() > 1000) {
            throw new Fault(5, token.start);
        }
        return n;
    }

    int fault() {
        return faultPlace;
    }

    int count(int what) {
        return switch (what) {
            case 0 -> house.people.size();
            case 1 -> house.works.size();
            case 2 -> house.teachings.size();
            case 3 -> house.forget;
            case 4 -> tape.length();
            case 5, 6, 7 -> status[what - 5];
            case 8 -> story == null ? 0 : story.weeks.size();
            default -> throw new NoSuchElementException();
        };
    }

    private void needPerson(int person) {
        if (person < 0 || person >= house.people.size()) {
            throw new NoSuchElementException();
        }
    }

    private void needWork(int work) {
        if (work < 0 || work >= house.works.size()) {
            throw new NoSuchElementException();
        }
    }

    private boolean[] left(int bits) {
        boolean[] left = new boolean[house.people.size()];
        for (int i = 0; i < 32; i++) {
            if ((bits >> i & 1) == 1) {
                if (i >= left.length) {
                    throw new IllegalArgumentException();
                }
                left[i] = true;
            }
        }
        return left;
    }

    int person(int person, int what) {
        needPerson(person);
        int bits = 0;
        for (int w = 0; w < house.works.size(); w++) {
            bits += house.skills[person][w] > 0 ? 1 << w : 0;
        }
        return switch (what) {
            case 0 -> house.people.get(person).hours;
            case 1 -> house.people.get(person).chance;
            case 2 -> bits;
            default -> throw new NoSuchElementException();
        };
    }

    int work(int work, int what) {
        needWork(work);
        int bits = 0;
        for (int p = 0; p < house.people.size(); p++) {
            bits += house.skills[p][work] > 0 ? 1 << p : 0;
        }
        return switch (what) {
            case 0 -> house.works.get(work).hour;
            case 1 -> house.works.get(work).length;
            case 2 -> bits;
            default -> throw new NoSuchElementException();
        };
    }

    int skill(int person, int work) {
        needPerson(person);
        needWork(work);
        return house.skills[person][work];
    }

    int teaching(int teaching, int what) {
        if (teaching < 0 || teaching >= house.teachings.size()) {
            throw new NoSuchElementException();
        }
        Teaching t = house.teachings.get(teaching);
        return switch (what) {
            case 0 -> t.person;
            case 1 -> t.work;
            case 2 -> t.skill;
            case 3 -> t.pains;
            default -> throw new NoSuchElementException();
        };
    }

    /** Goes through rows in their order; the visitor says which are looked at. */
    private interface Visitor {
        void see(int[] row);
    }

    /**
     * All rows in which works of a set are given to people, nobody (NONE) last where it may be; works
     * that aren't of the set are nobody's.
     */
    private void rows(List<Integer> hours, int[][] skills, int set, boolean nobody, Visitor visitor) {
        rowsFrom(0, new int[house.works.size()], hours, skills, set, nobody, visitor);
    }

    private void rowsFrom(int work, int[] made, List<Integer> hours, int[][] skills, int set,
            boolean nobody, Visitor visitor) {
        if (work == made.length) {
            visitor.see(made);
            return;
        }
        boolean wanted = (set >> work & 1) == 1;
        for (int p = 0; p < hours.size() && wanted; p++) {
            if (skills[p][work] > 0 && fits(made, work, p, hours.get(p))) {
                made[work] = p;
                rowsFrom(work + 1, made, hours, skills, set, nobody, visitor);
            }
        }
        if (!wanted || nobody) {
            made[work] = NONE;
            rowsFrom(work + 1, made, hours, skills, set, nobody, visitor);
        }
    }

    private boolean fits(int[] made, int work, int person, int hours) {
        int sum = house.works.get(work).length;
        for (int w = 0; w < work; w++) {
            if (made[w] == person) {
                sum += house.works.get(w).length;
                if (house.works.get(w).meets(house.works.get(work))) {
                    return false;
                }
            }
        }
        return sum <= hours;
    }

    private List<Integer> hours() {
        List<Integer> hours = new ArrayList<>();
        house.people.forEach(p -> hours.add(p.hours));
        return hours;
    }

    /** The skills of those left alone: of others all are 0. */
    private static int[][] skillsOf(int[][] skills, boolean[] left) {
        int[][] some = new int[skills.length][8];
        for (int p = 0; p < skills.length; p++) {
            if (p >= left.length || left[p]) {
                some[p] = skills[p].clone();
            }
        }
        return some;
    }

    private static final class Found extends RuntimeException {
        private static final long serialVersionUID = 1;

        Found() {
            super(null, null, false, false);
        }
    }

    private boolean can(List<Integer> hours, int[][] skills, boolean[] left, int set) {
        try {
            rows(hours, skillsOf(skills, left), set, false, r -> {
                throw new Found();
            });
        } catch (Found found) {
            return true;
        }
        return false;
    }

    private int everything() {
        return (1 << house.works.size()) - 1;
    }

    private int[] bestRow(boolean[] left) {
        int[][] skills = skillsOf(house.skills, left);
        int[][] found = new int[1][];
        int[] most = {-1};
        rows(hours(), skills, everything(), false, r -> {
            int sum = 0;
            for (int w = 0; w < r.length; w++) {
                sum += skills[r[w]][w];
            }
            if (sum > most[0]) {
                most[0] = sum;
                found[0] = r.clone();
            }
        });
        return found[0];
    }

    int day(int bits) {
        int[] found = bestRow(left(bits));
        if (found == null) {
            return NONE;
        }
        row = found;
        int sum = 0;
        for (int w = 0; w < found.length; w++) {
            sum += house.skills[found[w]][w];
        }
        return sum;
    }

    int does(int work) {
        needWork(work);
        if (row == null) {
            throw new NoSuchElementException();
        }
        return row[work];
    }

    int most(int bits) {
        int[] most = {0};
        rows(hours(), skillsOf(house.skills, left(bits)), everything(), true, r ->
            most[0] = Math.max(most[0], (int) Arrays.stream(r).filter(p -> p != NONE).count()));
        return most[0];
    }

    private List<Integer> setsBySize(int all) {
        List<Integer> sets = new ArrayList<>();
        for (int set = 0; set <= all; set++) {
            sets.add(set);
        }
        sets.sort((a, b) -> Integer.bitCount(a) != Integer.bitCount(b)
                ? Integer.bitCount(a) - Integer.bitCount(b) : a - b);
        return sets;
    }

    int bars(int bits) {
        boolean[] left = left(bits);
        for (int set : setsBySize(everything())) {
            if (!can(hours(), house.skills, left, set)) {
                return set;
            }
        }
        return NONE;
    }

    boolean tell(int work, int person) {
        if (work < 0 || work >= house.works.size() || person < -1 || person >= house.people.size()) {
            status[1]++;
            return false;
        }
        toldRow[work] = person;
        return true;
    }

    int judge(int bits) {
        boolean[] left = left(bits);
        for (int w = 0; w < toldRow.length; w++) {
            int p = toldRow[w];
            if (p == NONE) {
                return 10 * w + 1;
            }
            if (!left[p]) {
                return 10 * w + 2;
            }
            if (house.skills[p][w] == 0) {
                return 10 * w + 3;
            }
            int sum = house.works.get(w).length;
            for (int v = 0; v < w; v++) {
                if (toldRow[v] == p) {
                    sum += house.works.get(v).length;
                    if (house.works.get(v).meets(house.works.get(w))) {
                        return 10 * w + 4;
                    }
                }
            }
            if (sum > house.people.get(p).hours) {
                return 10 * w + 5;
            }
        }
        return NONE;
    }

    private boolean canWithout(int[][] skills, int... away) {
        boolean[] left = new boolean[house.people.size()];
        Arrays.fill(left, true);
        for (int p : away) {
            left[p] = false;
        }
        return can(hours(), skills, left, everything());
    }

    private boolean holds(int[][] skills, boolean two) {
        int n = house.people.size();
        for (int p = 0; p < n; p++) {
            for (int q = 0; q < n; q++) {
                boolean asked = two && n > 1 ? p < q : p == q;
                if (asked && !canWithout(skills, p, q)) {
                    return false;
                }
            }
        }
        return true;
    }

    int any(int what) {
        int missed = 0;
        int couples = 0;
        for (int p = 0; p < house.people.size(); p++) {
            missed += canWithout(house.skills, p) ? 0 : 1 << p;
            for (int q = 0; q < p; q++) {
                couples += canWithout(house.skills, p, q) ? 0 : 1;
            }
        }
        return switch (what) {
            case 0 -> missed;
            case 1 -> couples;
            case 2 -> holds(house.skills, false) ? 1 : 0;
            case 3 -> holds(house.skills, true) ? 1 : 0;
            default -> throw new NoSuchElementException();
        };
    }

    int learn(boolean two, int what) {
        if (what < 0 || what > 2) {
            throw new NoSuchElementException();
        }
        if (what == 2) {
            return bound(two ? 3 : 2);
        }
        int found = NONE;
        int least = Integer.MAX_VALUE;
        for (int set = 0; set < 1 << house.teachings.size(); set++) {
            int[][] skills = skillsOf(house.skills, new boolean[0]);
            int pains = 0;
            for (int t = 0; t < house.teachings.size(); t++) {
                if ((set >> t & 1) == 1) {
                    Teaching teaching = house.teachings.get(t);
                    skills[teaching.person][teaching.work] = teaching.skill;
                    pains += teaching.pains;
                }
            }
            if (pains < least && holds(skills, two)) {
                found = set;
                least = pains;
            }
        }
        return found == NONE ? NONE : what == 0 ? least : found;
    }

    private int bound(int many) {
        int sum = 0;
        for (int w = 0; w < house.works.size(); w++) {
            int work = w;
            int missing = many - Integer.bitCount(work(w, 2));
            int[] pains = house.teachings.stream().filter(t -> t.work == work)
                    .mapToInt(t -> t.pains).sorted().toArray();
            if (missing > pains.length) {
                return NONE;
            }
            for (int i = 0; i < missing; i++) {
                sum += pains[i];
            }
        }
        return sum;
    }

    int more() {
        int n = house.people.size();
        List<Integer> hours = hours();
        hours.add(24);
        for (int set : setsBySize(everything())) {
            boolean holds = true;
            for (int away = 0; away < n && holds; away++) {
                int[][] skills = new int[n + 1][8];
                for (int p = 0; p < n; p++) {
                    skills[p] = p == away ? new int[8] : house.skills[p];
                }
                for (int w = 0; w < 8; w++) {
                    skills[n][w] = set >> w & 1;
                }
                holds = can(hours, skills, new boolean[0], everything());
            }
            if (holds) {
                return set;
            }
        }
        return NONE;
    }

    int worth(int person, int what) {
        needPerson(person);
        if (what != 0 && what != 1) {
            throw new NoSuchElementException();
        }
        int[] sums = new int[2];
        Map<Integer, Integer> mosts = new HashMap<>();
        orders(0, person, mosts, sums);
        int divisor = 1;
        for (int d = 1; d <= sums[1]; d++) {
            if (sums[0] % d == 0 && sums[1] % d == 0) {
                divisor = d;
            }
        }
        return sums[what] / divisor;
    }

    /** One order after another: growth in sums[0], how many there are in sums[1]. */
    private void orders(int here, int person, Map<Integer, Integer> mosts, int[] sums) {
        if (Integer.bitCount(here) == house.people.size()) {
            sums[1]++;
            return;
        }
        for (int p = 0; p < house.people.size(); p++) {
            if ((here >> p & 1) == 0) {
                int then = here | 1 << p;
                int orders = sums[1];
                orders(then, person, mosts, sums);
                if (p == person) {
                    int growth = mosts.computeIfAbsent(then, this::most)
                            - mosts.computeIfAbsent(here, this::most);
                    sums[0] += growth * (sums[1] - orders);
                }
            }
        }
    }

    int looks(int works) {
        if (works < 0 || works > everything()) {
            throw new IllegalArgumentException();
        }
        int n = house.people.size();
        Map<String, Integer> likeliest = new HashMap<>();
        for (int away = 0; away <= n; away++) {
            boolean[] left = new boolean[n];
            Arrays.fill(left, true);
            int chance = 1000 - house.people.stream().mapToInt(p -> p.chance).sum();
            if (away < n) {
                left[away] = false;
                chance = house.people.get(away).chance;
            }
            int[] seen = bestRow(left);
            StringBuilder sight = new StringBuilder();
            for (int w = 0; w < house.works.size(); w++) {
                if ((works >> w & 1) == 1) {
                    sight.append(seen == null ? 0 : house.skills[seen[w]][w]).append(' ');
                }
            }
            likeliest.merge(sight.toString(), chance, Math::max);
        }
        return likeliest.values().stream().mapToInt(i -> i).sum();
    }

    int best(int many) {
        if (many < 0 || many > house.works.size()) {
            throw new IllegalArgumentException();
        }
        int found = NONE;
        int likely = NONE;
        for (int set = 0; set <= everything(); set++) {
            if (Integer.bitCount(set) == many && looks(set) > likely) {
                found = set;
                likely = looks(set);
            }
        }
        return found;
    }

    int often(int person, int told) {
        needPerson(person);
        if (told < 0 || told > 1000) {
            throw new IllegalArgumentException();
        }
        long chance = house.people.get(person).chance;
        if (chance == 0) {
            return 0;
        }
        for (long often = 0; often <= 1000; often++) {
            long upper = chance * 1000;
            long lower = upper + (1000 - chance) * often;
            if (upper * 1000 <= told * lower) {
                return (int) often;
            }
        }
        return NONE;
    }

    int seldom(int person, int n) {
        needPerson(person);
        if (n < 0 || n > 5000) {
            throw new IllegalArgumentException();
        }
        long value = 1_000_000_000;
        for (int i = 0; i < n; i++) {
            value = value * (1000 - house.people.get(person).chance) / 1000;
        }
        return (int) value;
    }

    void begin(int seed) {
        story = new Story();
        story.seed = seed;
        story.knows = new boolean[6][8];
        for (int p = 0; p < 6; p++) {
            for (int w = 0; w < 8; w++) {
                story.knows[p][w] = house.skills[p][w] > 0;
            }
        }
    }

    int on(int weeks) {
        if (weeks < 0 || weeks > 60) {
            throw new IllegalArgumentException();
        }
        if (story == null || story.weeks.size() + weeks > 200) {
            status[2]++;
            return NONE;
        }
        for (int i = 0; i < weeks; i++) {
            live();
        }
        return story.weeks.size();
    }

    private void live() {
        int week = story.weeks.size();
        story.seed = story.seed * 1103515245 + 12345;
        int draw = (story.seed >> 16 & 0x7fff) % 1000;
        int away = NONE;
        int chances = 0;
        for (int p = 0; p < house.people.size() && away == NONE; p++) {
            chances += house.people.get(p).chance;
            away = chances > draw ? p : NONE;
        }
        int[][] skills = new int[6][8];
        for (int p = 0; p < 6; p++) {
            for (int w = 0; w < 8; w++) {
                skills[p][w] = p != away && story.knows[p][w] ? 1 : 0;
            }
        }
        int[] most = {-1, -1};
        int[][] found = new int[1][];
        rows(hours(), skills, everything(), true, r -> {
            int works = 0;
            int since = 0;
            for (int w = 0; w < r.length; w++) {
                if (r[w] != NONE) {
                    works++;
                    since += week - last(r[w], w);
                }
            }
            if (works > most[0] || works == most[0] && since > most[1]) {
                most[0] = works;
                most[1] = since;
                found[0] = r.clone();
            }
        });
        story.weeks.add(new Week(away, found[0]));
        forget(week);
    }

    private int last(int person, int work) {
        for (int week = story.weeks.size() - 1; week >= 0; week--) {
            if (story.weeks.get(week).row[work] == person) {
                return week;
            }
        }
        return -1;
    }

    private void forget(int week) {
        if (house.forget == 0 || week - (house.forget - 1) < 0) {
            return;
        }
        for (int p = 0; p < house.people.size(); p++) {
            for (int w = 0; w < house.works.size(); w++) {
                boolean did = false;
                for (int k = week - (house.forget - 1); k <= week; k++) {
                    did |= story.weeks.get(k).row[w] == p;
                }
                story.knows[p][w] &= did;
            }
        }
    }

    int week(int week, int what) {
        if (story == null || week < 0 || week >= story.weeks.size()) {
            throw new NoSuchElementException();
        }
        Week been = story.weeks.get(week);
        if (what == 0) {
            return been.away;
        }
        if (what == 1) {
            return (int) Arrays.stream(been.row).filter(p -> p != NONE).count();
        }
        needWork(what - 10);
        return been.row[what - 10];
    }

    int knows(int person) {
        needPerson(person);
        if (story == null) {
            throw new NoSuchElementException();
        }
        int bits = 0;
        for (int w = 0; w < 8; w++) {
            bits += story.knows[person][w] ? 1 << w : 0;
        }
        return bits;
    }

    boolean image() {
        image = story == null ? image : story.copy();
        return story != null;
    }

    boolean restore() {
        story = image == null ? story : image.copy();
        return image != null;
    }

    /** A text as numbers of four bytes, filled up with blanks. */
    static int[] numbers(String text) {
        int length = (text.length() + 19) / 20 * 20;
        byte[] bytes = Arrays.copyOf(text.getBytes(StandardCharsets.ISO_8859_1), length);
        Arrays.fill(bytes, text.length(), length, (byte) ' ');
        int[] numbers = new int[length / 4];
        for (int i = 0; i < length; i++) {
            numbers[i / 4] = numbers[i / 4] << 8 | bytes[i] & 255;
        }
        return numbers;
    }
}
