import java.util.Arrays;
import java.util.NoSuchElementException;

/**
 * A house of people and their works, of whom each day one may be away.
 *
 * <p>Sets of people and sets of works are bits of an int. All rows are made with the object and used
 * again, so that no call makes an object.
 */
public final class FullHouse {
    public static final int NONE = -1;

    private static final int MOST_PEOPLE = 6;
    private static final int MOST_WORKS = 8;
    private static final int MOST_TEACHINGS = 8;
    private static final int SETS_OF_WORKS = 256;
    private static final int DAY_HOURS = 24;
    private static final int THOUSAND = 1000;
    private static final int MOST_DAYS = 5000;
    private static final int MOST_WEEKS = 200;
    private static final int MOST_WEEKS_AT_ONCE = 60;
    /** Stands for nobody where people are digits of three bits: it comes behind them all. */
    private static final int NOBODY = 7;
    private static final int[] FACTORIALS = {1, 1, 2, 6, 24, 120, 720};

    private final Reader reader = new Reader();
    private House house = new House();
    private House draft = new House();
    private final Spans spans = new Spans();
    private final Lefts lefts = new Lefts();
    private final Rows rows = new Rows();
    private final Learning learning = new Learning();
    private final Guest guest = new Guest();
    private final int[] toldRow = new int[MOST_WORKS];
    private int keptRow;
    private final Weeks calendar = new Weeks();
    private final Weeks picture = new Weeks();
    private final int[] refused = new int[3];
    private int faultPlace;

    public FullHouse() {
        faultPlace = NONE;
        settle();
    }

    public int feed(int a, int b, int c, int d, int e) {
        Tokens tape = reader.tokens;
        if (tape.size > Tokens.MOST_BYTES - 20) {
            return NONE;
        }
        tape.put(a);
        tape.put(b);
        tape.put(c);
        tape.put(d);
        tape.put(e);
        return tape.size;
    }

    public int house(int n) throws IllegalArgumentException {
        if (n < 0 || n > reader.tokens.size) {
            throw new IllegalArgumentException("the tape has not so many bytes");
        }
        int flaw = reader.read(draft, n);
        reader.tokens.size = 0;
        faultPlace = reader.place;
        if (flaw != 0) {
            refused[0]++;
            return flaw;
        }
        House old = house;
        house = draft;
        draft = old;
        settle();
        return 0;
    }

    public int fault() {
        return faultPlace;
    }

    public int count(int what) throws NoSuchElementException {
        switch (what) {
            case 0: return house.people;
            case 1: return house.works;
            case 2: return house.teachings;
            case 3: return house.forgetAfter;
            case 4: return reader.tokens.size;
            case 5: return refused[0];
            case 6: return refused[1];
            case 7: return refused[2];
            case 8: return calendar.been;
            default: throw new NoSuchElementException("no such count");
        }
    }

    public int person(int person, int what) throws NoSuchElementException {
        checkPerson(person);
        switch (what) {
            case 0: return house.hours[person];
            case 1: return house.chances[person];
            case 2: return house.canDo[person];
            default: throw new NoSuchElementException("no such what of a person");
        }
    }

    public int work(int work, int what) throws NoSuchElementException {
        checkWork(work);
        switch (what) {
            case 0: return house.begins[work];
            case 1: return house.lengths[work];
            case 2: return house.doers[work];
            default: throw new NoSuchElementException("no such what of a work");
        }
    }

    public int skill(int person, int work) throws NoSuchElementException {
        checkPerson(person);
        checkWork(work);
        return house.skills[person * MOST_WORKS + work];
    }

    public int teaching(int teaching, int what) throws NoSuchElementException {
        if (teaching < 0 || teaching >= house.teachings) {
            throw new NoSuchElementException("no such teaching");
        }
        switch (what) {
            case 0: return house.learners[teaching];
            case 1: return house.lessons[teaching];
            case 2: return house.learntSkills[teaching];
            case 3: return house.pains[teaching];
            default: throw new NoSuchElementException("no such what of a teaching");
        }
    }

    public int day(int left) throws IllegalArgumentException {
        checkLeft(left);
        long rank = rows.rankOfDay(house, spans, left);
        if (rank == Rows.NEVER) {
            return NONE;
        }
        keptRow = Rows.codeOf(rank);
        return Rows.skillsOf(rank);
    }

    public int does(int work) throws NoSuchElementException {
        checkWork(work);
        if (keptRow == NONE) {
            throw new NoSuchElementException("no row is kept");
        }
        return Rows.doerIn(keptRow, work);
    }

    public int most(int left) throws IllegalArgumentException {
        checkLeft(left);
        return lefts.greatestNumber(left);
    }

    public int bars(int left) throws IllegalArgumentException {
        checkLeft(left);
        return lefts.smallestUndone(house, left);
    }

    public boolean tell(int work, int person) {
        boolean somebody = house.hasPerson(person);
        if (!house.hasWork(work) || !somebody && person != NONE) {
            refused[1]++;
            return false;
        }
        toldRow[work] = person;
        return true;
    }

    public int judge(int left) throws IllegalArgumentException {
        checkLeft(left);
        for (int work = 0; work < house.works; work++) {
            int flaw = flawOfTold(work, left);
            if (flaw != 0) {
                return 10 * work + flaw;
            }
        }
        return NONE;
    }

    public int any(int what) throws NoSuchElementException {
        switch (what) {
            case 0: return lefts.missedPeople(house);
            case 1: return lefts.missedCouples(house);
            case 2: return lefts.includes(house.allWorks(), house.whenAnyOneIsAway()) ? 1 : 0;
            case 3: return lefts.includes(house.allWorks(), house.whenAnyTwoAreAway()) ? 1 : 0;
            default: throw new NoSuchElementException("no such what of any");
        }
    }

    public int learn(boolean two, int what) throws NoSuchElementException {
        switch (what) {
            case 0: return learning.leastPains(house, spans, two);
            case 1: return learning.cheapestSet(house, spans, two);
            case 2: return learning.bound(house, two ? 3 : 2);
            default: throw new NoSuchElementException("no such what of learn");
        }
    }

    public int more() {
        long wanted = house.whenAnyOneIsAway();
        int all = house.allWorks();
        int found = NONE;
        for (int set = 0; set <= all; set++) {
            boolean smaller = found == NONE || Integer.bitCount(set) < Integer.bitCount(found);
            if (smaller && (lefts.withHelp(spans, all, set, DAY_HOURS) & wanted) == wanted) {
                found = set;
            }
        }
        return found;
    }

    public int worth(int person, int what) throws NoSuchElementException {
        checkPerson(person);
        if (what != 0 && what != 1) {
            throw new NoSuchElementException("no such what of worth");
        }
        int orders = FACTORIALS[house.people];
        int grown = growthOverAllOrders(person);
        int divisor = greatestCommonDivisor(orders, grown);
        return (what == 0 ? grown : orders) / divisor;
    }

    public int looks(int works) throws IllegalArgumentException {
        if ((works & ~house.allWorks()) != 0) {
            throw new IllegalArgumentException("works that there aren't");
        }
        return guest.likelyRight(house, spans, rows, works);
    }

    public int best(int many) throws IllegalArgumentException {
        if (many < 0 || many > house.works) {
            throw new IllegalArgumentException("not so many works");
        }
        int found = 0;
        int foundLikely = NONE;
        for (int set = 0; set <= house.allWorks(); set++) {
            if (Integer.bitCount(set) == many) {
                int likely = guest.likelyRight(house, spans, rows, set);
                if (likely > foundLikely) {
                    found = set;
                    foundLikely = likely;
                }
            }
        }
        return found;
    }

    public int often(int person, int told) throws NoSuchElementException, IllegalArgumentException {
        checkPerson(person);
        if (told < 0 || told > THOUSAND) {
            throw new IllegalArgumentException("told is not 0 to 1000");
        }
        int chance = house.chances[person];
        if (chance == 0) {
            return 0;
        }
        int upper = chance * THOUSAND;
        for (int often = 0; often <= THOUSAND; often++) {
            int lower = upper + (THOUSAND - chance) * often;
            if (upper * THOUSAND <= told * lower) {
                return often;
            }
        }
        return NONE;
    }

    public int seldom(int person, int n) throws NoSuchElementException, IllegalArgumentException {
        checkPerson(person);
        if (n < 0 || n > MOST_DAYS) {
            throw new IllegalArgumentException("days are not 0 to 5000");
        }
        long never = 1_000_000_000L;
        for (int days = 0; days < n; days++) {
            never = never * (THOUSAND - house.chances[person]) / THOUSAND;
        }
        return (int) never;
    }

    public void begin(int seed) {
        calendar.start(house, seed);
    }

    public int on(int weeks) throws IllegalArgumentException {
        if (weeks < 0 || weeks > MOST_WEEKS_AT_ONCE) {
            throw new IllegalArgumentException("weeks are not 0 to 60");
        }
        if (!calendar.begun || calendar.been + weeks > MOST_WEEKS) {
            refused[2]++;
            return NONE;
        }
        for (int more = 0; more < weeks; more++) {
            calendar.live(house, spans, rows);
        }
        return calendar.been;
    }

    public int week(int week, int what) throws NoSuchElementException {
        if (week < 0 || week >= calendar.been) {
            throw new NoSuchElementException("the week hasn't been");
        }
        if (what == 0) {
            return calendar.awayIn(week);
        }
        if (what == 1) {
            return calendar.doneIn(house, week);
        }
        if (what < 10 || !house.hasWork(what - 10)) {
            throw new NoSuchElementException("no such what of a week");
        }
        return calendar.doerIn(week, what - 10);
    }

    public int knows(int person) throws NoSuchElementException {
        checkPerson(person);
        if (!calendar.begun) {
            throw new NoSuchElementException("no weeks have begun");
        }
        return calendar.known[person];
    }

    public boolean image() {
        if (!calendar.begun) {
            return false;
        }
        picture.become(calendar);
        return true;
    }

    public boolean restore() {
        if (!picture.begun) {
            return false;
        }
        calendar.become(picture);
        return true;
    }

    /** All that hangs on the house begins anew, as behind a text without a fault. */
    private void settle() {
        Arrays.fill(toldRow, NONE);
        keptRow = NONE;
        calendar.stop();
        picture.stop();
        spans.measure(house);
        lefts.fill(house, spans, house.canDo);
        lefts.sortByNumber(house);
        learning.reset();
        guest.reset();
    }

    private void checkPerson(int person) {
        if (!house.hasPerson(person)) {
            throw new NoSuchElementException("no such person");
        }
    }

    private void checkWork(int work) {
        if (!house.hasWork(work)) {
            throw new NoSuchElementException("no such work");
        }
    }

    private void checkLeft(int left) {
        if ((left & ~house.allPeople()) != 0) {
            throw new IllegalArgumentException("people that there aren't");
        }
    }

    /** What is wrong (1 to 5) with a work of the told row, 0 if nothing is. */
    private int flawOfTold(int work, int left) {
        int person = toldRow[work];
        if (!house.hasPerson(person)) {
            return 1;
        }
        if ((left >> person & 1) == 0) {
            return 2;
        }
        if (house.skills[person * MOST_WORKS + work] == 0) {
            return 3;
        }
        int busy = 0;
        int sum = house.lengths[work];
        for (int lesser = 0; lesser < work; lesser++) {
            if (toldRow[lesser] == person) {
                busy |= house.hoursOf(lesser);
                sum += house.lengths[lesser];
            }
        }
        if ((busy & house.hoursOf(work)) != 0) {
            return 4;
        }
        return sum > house.hours[person] ? 5 : 0;
    }

    /** By how much MOST grows as a person comes, over all orders together. */
    private int growthOverAllOrders(int person) {
        int growth = 0;
        for (int ahead = 0; ahead <= house.allPeople(); ahead++) {
            if ((ahead >> person & 1) == 0) {
                int before = Integer.bitCount(ahead);
                int behind = house.people - 1 - before;
                int grown = lefts.greatestNumber(ahead | 1 << person) - lefts.greatestNumber(ahead);
                growth += FACTORIALS[before] * FACTORIALS[behind] * grown;
            }
        }
        return growth;
    }

    /** Of a number above 0 and one that isn't below 0. */
    private static int greatestCommonDivisor(int a, int b) {
        int divisor = a;
        int rest = b;
        for (int step = 0; step < 100 && rest != 0; step++) {
            int next = divisor % rest;
            divisor = rest;
            rest = next;
        }
        return Math.max(1, divisor);
    }

    /** What a text tells. */
    private static final class House {
        int people;
        int works;
        int teachings;
        int forgetAfter;
        final int[] hours = new int[MOST_PEOPLE];
        final int[] chances = new int[MOST_PEOPLE];
        final int[] canDo = new int[MOST_PEOPLE];
        final int[] mayLearn = new int[MOST_PEOPLE];
        final int[] begins = new int[MOST_WORKS];
        final int[] lengths = new int[MOST_WORKS];
        final int[] doers = new int[MOST_WORKS];
        final int[] skills = new int[MOST_PEOPLE * MOST_WORKS];
        final int[] learners = new int[MOST_TEACHINGS];
        final int[] lessons = new int[MOST_TEACHINGS];
        final int[] learntSkills = new int[MOST_TEACHINGS];
        final int[] pains = new int[MOST_TEACHINGS];

        /** The other rows are written anew as far as the numbers of people, works, teachings go. */
        void clear() {
            people = 0;
            works = 0;
            teachings = 0;
            forgetAfter = 0;
            Arrays.fill(canDo, 0);
            Arrays.fill(mayLearn, 0);
            Arrays.fill(doers, 0);
            Arrays.fill(skills, 0);
        }

        void addPerson(int hoursADay, int chance) {
            if (people < MOST_PEOPLE) {
                hours[people] = hoursADay;
                chances[people] = chance;
                people++;
            }
        }

        void addWork(int hour, int length) {
            if (works < MOST_WORKS) {
                begins[works] = hour;
                lengths[works] = length;
                works++;
            }
        }

        void addSkill(int person, int work, int skill) {
            if (hasPerson(person) && hasWork(work)) {
                skills[person * MOST_WORKS + work] = skill;
                canDo[person] |= 1 << work;
                doers[work] |= 1 << person;
            }
        }

        void addTeaching(int person, int work, int skill, int pain) {
            if (teachings < MOST_TEACHINGS && hasPerson(person) && hasWork(work)) {
                learners[teachings] = person;
                lessons[teachings] = work;
                learntSkills[teachings] = skill;
                pains[teachings] = pain;
                mayLearn[person] |= 1 << work;
                teachings++;
            }
        }

        boolean hasPerson(int person) {
            return person >= 0 && person < people;
        }

        boolean hasWork(int work) {
            return work >= 0 && work < works;
        }

        int allPeople() {
            return (1 << people) - 1;
        }

        int allWorks() {
            return (1 << works) - 1;
        }

        int allTeachings() {
            return (1 << teachings) - 1;
        }

        int allChances() {
            int sum = 0;
            for (int person = 0; person < people; person++) {
                sum += chances[person];
            }
            return sum;
        }

        /** The hours of the day at which a work is done, as bits. */
        int hoursOf(int work) {
            return (1 << lengths[work]) - 1 << begins[work];
        }

        /** All LEFT, as bits of a long, of whom just one is away. */
        long whenAnyOneIsAway() {
            long found = 0;
            for (int person = 0; person < people; person++) {
                found |= 1L << (allPeople() ^ 1 << person);
            }
            return found;
        }

        /** All LEFT, as bits of a long, of whom just two are away; of a house of one, he. */
        long whenAnyTwoAreAway() {
            if (people == 1) {
                return whenAnyOneIsAway();
            }
            long found = 0;
            for (int first = 0; first < people; first++) {
                for (int second = first + 1; second < people; second++) {
                    found |= 1L << (allPeople() ^ 1 << first ^ 1 << second);
                }
            }
            return found;
        }

        int painsOf(int teachingSet) {
            int sum = 0;
            for (int teaching = 0; teaching < teachings; teaching++) {
                if ((teachingSet >> teaching & 1) != 0) {
                    sum += pains[teaching];
                }
            }
            return sum;
        }
    }

    /** The tape, and the tokens of its first bytes one by one. */
    private static final class Tokens {
        static final int MOST_BYTES = 800;
        static final int END = 0;
        static final int WORD = 1;
        static final int NUMBER = 2;
        static final int SIGN = 3;
        static final int ODD = 4;

        private final byte[] tape = new byte[MOST_BYTES];
        int size;
        private int length;
        /** The token at hand: what it is, its first byte, the byte behind it. */
        int kind;
        int start;
        private int stop;

        /** Four bytes come behind the tape, which has room for them. */
        void put(int number) {
            for (int shift = 24; shift >= 0; shift -= 8) {
                if (size < MOST_BYTES) {
                    tape[size] = (byte) (number >> shift);
                    size++;
                }
            }
        }

        void rewind(int textLength) {
            length = textLength;
            stop = 0;
        }

        void advance() {
            start = stop;
            while (start < length && isBlank(tape[start])) {
                start++;
            }
            stop = start;
            if (start >= length) {
                kind = END;
            } else if (isLetter(tape[start])) {
                kind = WORD;
                while (stop < length && isLetter(tape[stop])) {
                    stop++;
                }
            } else if (isDigit(tape[start])) {
                kind = NUMBER;
                while (stop < length && isDigit(tape[stop])) {
                    stop++;
                }
            } else {
                kind = tape[start] == ';' ? SIGN : ODD;
                stop++;
            }
        }

        boolean isWord(String word) {
            if (kind != WORD || stop - start != word.length()) {
                return false;
            }
            for (int i = 0; i < word.length(); i++) {
                if (tape[start + i] != word.charAt(i)) {
                    return false;
                }
            }
            return true;
        }

        /** A number's digits, or 0 of another token. */
        int digits() {
            return kind == NUMBER ? stop - start : 0;
        }

        int value() {
            int number = 0;
            for (int i = start; i < stop; i++) {
                number = number * 10 + (tape[i] - '0');
            }
            return number;
        }

        private static boolean isBlank(byte sign) {
            return sign == 32 || sign == 10;
        }

        private static boolean isLetter(byte sign) {
            return sign >= 'a' && sign <= 'z';
        }

        private static boolean isDigit(byte sign) {
            return sign >= '0' && sign <= '9';
        }
    }

    /** Reads a house, up to its first fault. */
    private static final class Reader {
        private static final int UNFIT = 1;
        private static final int TOO_MUCH = 2;
        private static final int UNTOLD = 3;
        private static final int TOLD_ALREADY = 4;
        private static final int TWICE = 5;
        private static final int MOST_DIGITS = 4;
        private static final int GREATEST_NUMBER = 9999;
        private static final int LONGEST = 8;
        private static final int GREATEST_SKILL = 9;
        private static final int GREATEST_PAINS = 99;
        private static final int GREATEST_FORGET = 50;

        final Tokens tokens = new Tokens();
        private int flaw;
        /** The fault's first byte; NONE without. */
        int place;

        /** The fault, or 0 and all is in the draft. */
        int read(House draft, int length) {
            draft.clear();
            tokens.rewind(length);
            flaw = 0;
            place = NONE;
            for (int line = 0; line <= length && flaw == 0; line++) {
                tokens.advance();
                if (tokens.kind == Tokens.END) {
                    break;
                }
                readLine(draft);
            }
            return flaw;
        }

        private void readLine(House draft) {
            if (tokens.isWord("person")) {
                readPerson(draft);
            } else if (tokens.isWord("work")) {
                readWork(draft);
            } else if (tokens.isWord("can")) {
                readCan(draft);
            } else if (tokens.isWord("learn")) {
                readLearn(draft);
            } else if (tokens.isWord("forget")) {
                readForget(draft);
            } else {
                refuse(UNFIT);
            }
        }

        private void readPerson(House draft) {
            if (draft.people >= MOST_PEOPLE) {
                refuse(TOO_MUCH);
                return;
            }
            int hours = readNumber(0, DAY_HOURS);
            if (hours == NONE) {
                return;
            }
            int chance = 0;
            tokens.advance();
            if (tokens.isWord("drawn")) {
                chance = readChance(draft);
                if (chance == NONE) {
                    return;
                }
                tokens.advance();
            }
            if (isLineEnd()) {
                draft.addPerson(hours, chance);
            }
        }

        private int readChance(House draft) {
            int chance = readNumber(0, THOUSAND);
            if (chance != NONE && draft.allChances() + chance > THOUSAND) {
                return refuse(TWICE);
            }
            return chance;
        }

        private void readWork(House draft) {
            if (draft.works >= MOST_WORKS) {
                refuse(TOO_MUCH);
                return;
            }
            int hour = readNumber(0, DAY_HOURS - 1);
            if (hour == NONE) {
                return;
            }
            int length = readNumber(1, Math.min(LONGEST, DAY_HOURS - hour));
            if (length != NONE && readLineEnd()) {
                draft.addWork(hour, length);
            }
        }

        private void readCan(House draft) {
            int person = readPersonNumber(draft);
            if (person == NONE) {
                return;
            }
            int work = readNewWorkNumber(draft, person);
            if (work == NONE) {
                return;
            }
            int skill = readNumber(1, GREATEST_SKILL);
            if (skill != NONE && readLineEnd()) {
                draft.addSkill(person, work, skill);
            }
        }

        private void readLearn(House draft) {
            if (draft.teachings >= MOST_TEACHINGS) {
                refuse(TOO_MUCH);
                return;
            }
            int person = readPersonNumber(draft);
            if (person == NONE) {
                return;
            }
            int work = readNewWorkNumber(draft, person);
            if (work == NONE) {
                return;
            }
            int skill = readNumber(1, GREATEST_SKILL);
            if (skill == NONE) {
                return;
            }
            int pains = readNumber(1, GREATEST_PAINS);
            if (pains != NONE && readLineEnd()) {
                draft.addTeaching(person, work, skill, pains);
            }
        }

        private void readForget(House draft) {
            if (draft.forgetAfter != 0) {
                refuse(TWICE);
                return;
            }
            int weeks = readNumber(1, GREATEST_FORGET);
            if (weeks != NONE && readLineEnd()) {
                draft.forgetAfter = weeks;
            }
        }

        private int readPersonNumber(House draft) {
            int person = readNumber(0, GREATEST_NUMBER);
            return person == NONE || draft.hasPerson(person) ? person : refuse(UNTOLD);
        }

        /** A work that the person neither can do nor may learn yet. */
        private int readNewWorkNumber(House draft, int person) {
            int work = readNumber(0, GREATEST_NUMBER);
            if (work == NONE) {
                return NONE;
            }
            if (!draft.hasWork(work)) {
                return refuse(UNTOLD);
            }
            int already = draft.canDo[person] | draft.mayLearn[person];
            return (already >> work & 1) == 0 ? work : refuse(TOLD_ALREADY);
        }

        /** The next token as a number; NONE, with a fault, if it isn't one from least to greatest. */
        private int readNumber(int least, int greatest) {
            tokens.advance();
            if (tokens.kind != Tokens.NUMBER) {
                return refuse(UNFIT);
            }
            if (tokens.digits() > MOST_DIGITS) {
                return refuse(TOO_MUCH);
            }
            int number = tokens.value();
            return number >= least && number <= greatest ? number : refuse(TOO_MUCH);
        }

        private boolean readLineEnd() {
            tokens.advance();
            return isLineEnd();
        }

        /** Whether the token at hand ends a line: it is a fault, if it doesn't. */
        private boolean isLineEnd() {
            if (tokens.kind == Tokens.SIGN) {
                return true;
            }
            refuse(UNFIT);
            return false;
        }

        /** The token at hand is the fault. NONE, always, in place of the number that isn't there. */
        private int refuse(int fault) {
            flaw = fault;
            place = tokens.start;
            return NONE;
        }
    }

    /** How many hours each set of works takes one person. */
    private static final class Spans {
        /** More than anybody's hours: two works of the set are at one hour. */
        private static final int CLASH = 99;

        final int[] hours = new int[SETS_OF_WORKS];
        private final int[] busy = new int[SETS_OF_WORKS];

        void measure(House house) {
            hours[0] = 0;
            busy[0] = 0;
            for (int work = 0; work < house.works; work++) {
                int added = house.hoursOf(work);
                int first = 1 << work;
                for (int rest = 0; rest < first; rest++) {
                    boolean clash = hours[rest] == CLASH || (busy[rest] & added) != 0;
                    hours[first | rest] = clash ? CLASH : hours[rest] + house.lengths[work];
                    busy[first | rest] = busy[rest] | added;
                }
            }
        }
    }

    /** For each set of works all LEFT who can do just these, LEFT being a bit of a long. */
    private static final class Lefts {
        private final long[] able = new long[SETS_OF_WORKS];
        /** For each number all LEFT who can do some set of so many works. */
        private final long[] ableSoMany = new long[MOST_WORKS + 1];

        /**
         * People come one by one. Those who were there are LEFT below 1 << person, with him they are
         * as many places higher. Going down, smaller sets are still as they were without him.
         */
        void fill(House house, Spans spans, int[] canDo) {
            Arrays.fill(able, 0L);
            able[0] = 1L;
            for (int person = 0; person < house.people; person++) {
                for (int set = house.allWorks(); set >= 0; set--) {
                    long with = withHelp(spans, set, canDo[person], house.hours[person]);
                    able[set] |= with << (1 << person);
                }
            }
        }

        /** All LEFT who can do a set, if one helps them who can do some works, in so many hours. */
        long withHelp(Spans spans, int set, int canDo, int hours) {
            int own = set & canDo;
            long found = able[set];
            for (int part = own; part > 0; part = (part - 1) & own) {
                if (spans.hours[part] <= hours) {
                    found |= able[set ^ part];
                }
            }
            return found;
        }

        /** Whether all of these LEFT can do a set. */
        boolean includes(int set, long wanted) {
            return (able[set] & wanted) == wanted;
        }

        /** Readies greatestNumber, for which learning has no use. */
        void sortByNumber(House house) {
            Arrays.fill(ableSoMany, 0L);
            for (int set = 0; set <= house.allWorks(); set++) {
                ableSoMany[Integer.bitCount(set)] |= able[set];
            }
        }

        int greatestNumber(int left) {
            int greatest = 0;
            for (int number = 1; number <= MOST_WORKS; number++) {
                if ((ableSoMany[number] >>> left & 1) != 0) {
                    greatest = number;
                }
            }
            return greatest;
        }

        /** Of the sets that LEFT can't do the smallest, of as small the least; NONE without. */
        int smallestUndone(House house, int left) {
            int found = NONE;
            for (int set = 0; set <= house.allWorks(); set++) {
                boolean smaller = found == NONE || Integer.bitCount(set) < Integer.bitCount(found);
                if (smaller && !includes(set, 1L << left)) {
                    found = set;
                }
            }
            return found;
        }

        int missedPeople(House house) {
            int missed = 0;
            for (int person = 0; person < house.people; person++) {
                if (!includes(house.allWorks(), 1L << (house.allPeople() ^ 1 << person))) {
                    missed |= 1 << person;
                }
            }
            return missed;
        }

        int missedCouples(House house) {
            int missed = 0;
            for (int first = 0; first < house.people; first++) {
                for (int second = first + 1; second < house.people; second++) {
                    int left = house.allPeople() ^ 1 << first ^ 1 << second;
                    if (!includes(house.allWorks(), 1L << left)) {
                        missed++;
                    }
                }
            }
            return missed;
        }
    }

    /**
     * The best row by a rank, which is a sum over works: what counts most is highest, and lowest is
     * the row as a code of three bits a work, work 0 first: 0 for nobody, the more the earlier he
     * comes. So of like rows the first has the greatest rank, and the rank tells the row.
     */
    private static final class Rows {
        static final long NEVER = -1L;
        private static final int CODE_BITS = 24;
        private static final long CODE = (1L << CODE_BITS) - 1;
        /** Above all weeks together that eight works can have. */
        private static final long ONE_WORK = 1L << 12;

        /** For each set the greatest rank of a row that gives just these to those who came so far. */
        private final long[] ranks = new long[SETS_OF_WORKS];
        /** For each set of what he can do who comes now the rank of it; NEVER: not all at once. */
        private final long[] owns = new long[SETS_OF_WORKS];
        /** For each work what it adds to the rank, if he does it who comes now. */
        private final long[] gains = new long[MOST_WORKS];
        /** The works that anybody can do who came so far. */
        private int reached;

        static int codeOf(long rank) {
            return (int) (rank & CODE);
        }

        static int skillsOf(long rank) {
            return (int) (rank >> CODE_BITS);
        }

        /** Who does a work in a row: NONE, if nobody. */
        static int doerIn(int code, int work) {
            int ahead = code >> placeOf(work) & 7;
            return ahead == 0 ? NONE : NOBODY - ahead;
        }

        private static int placeOf(int work) {
            return 3 * (MOST_WORKS - 1 - work);
        }

        private static long gainOf(long counts, int person, int work) {
            return (counts << CODE_BITS) + (NOBODY - person << placeOf(work));
        }

        /** The rank of THE BEST ROW of those LEFT; NEVER: they can't. */
        long rankOfDay(House house, Spans spans, int left) {
            clear();
            for (int person = 0; person < house.people; person++) {
                if ((left >> person & 1) != 0) {
                    for (int work = 0; work < house.works; work++) {
                        int skill = house.skills[person * MOST_WORKS + work];
                        gains[work] = gainOf(skill, person, work);
                    }
                    addPerson(spans, house.canDo[person], house.hours[person]);
                }
            }
            return ranks[house.allWorks()];
        }

        /** The row of a week, in which some works may be nobody's, as a code. */
        int codeOfWeek(House house, Spans spans, Weeks weeks, int away) {
            clear();
            for (int person = 0; person < house.people; person++) {
                if (person != away) {
                    for (int work = 0; work < house.works; work++) {
                        int since = weeks.been - weeks.latest[person * MOST_WORKS + work];
                        gains[work] = gainOf(ONE_WORK + since, person, work);
                    }
                    addPerson(spans, weeks.known[person], house.hours[person]);
                }
            }
            long greatest = 0L;
            for (int set = reached; set > 0; set = (set - 1) & reached) {
                greatest = Math.max(greatest, ranks[set]);
            }
            return codeOf(greatest);
        }

        private void clear() {
            Arrays.fill(ranks, NEVER);
            ranks[0] = 0L;
            reached = 0;
        }

        /** Going down, smaller sets are still as they were without him. */
        private void addPerson(Spans spans, int canDo, int hours) {
            rankOwn(spans, canDo, hours);
            reached |= canDo;
            for (int set = reached; set > 0; set = (set - 1) & reached) {
                int own = set & canDo;
                long greatest = ranks[set];
                for (int part = own; part > 0; part = (part - 1) & own) {
                    long others = ranks[set ^ part];
                    if (owns[part] != NEVER && others != NEVER && others + owns[part] > greatest) {
                        greatest = others + owns[part];
                    }
                }
                ranks[set] = greatest;
            }
        }

        /** What fits but for its first work fits, if the hours do. */
        private void rankOwn(Spans spans, int canDo, int hours) {
            owns[0] = 0L;
            for (int part = 1; part <= canDo; part++) {
                if ((part & ~canDo) == 0) {
                    long gain = gains[Integer.numberOfTrailingZeros(part)];
                    owns[part] = spans.hours[part] <= hours ? owns[part & part - 1] + gain : NEVER;
                }
            }
        }
    }

    /** Which teachings are the cheapest by which the house holds: sought once for each house. */
    private static final class Learning {
        private static final int UNSOUGHT = -2;

        private final Lefts lefts = new Lefts();
        private final int[] canDo = new int[MOST_PEOPLE];
        private int setForOne;
        private int setForTwo;

        void reset() {
            setForOne = UNSOUGHT;
            setForTwo = UNSOUGHT;
        }

        int leastPains(House house, Spans spans, boolean two) {
            int set = cheapestSet(house, spans, two);
            return set == NONE ? NONE : house.painsOf(set);
        }

        int cheapestSet(House house, Spans spans, boolean two) {
            if (two) {
                if (setForTwo == UNSOUGHT) {
                    setForTwo = seek(house, spans, house.whenAnyTwoAreAway());
                }
                return setForTwo;
            }
            if (setForOne == UNSOUGHT) {
                setForOne = seek(house, spans, house.whenAnyOneIsAway());
            }
            return setForOne;
        }

        /** More teachings never harm: without all of them, or one that is needed, no set holds. */
        private int seek(House house, Spans spans, long wanted) {
            int all = house.allTeachings();
            if (!holdsWith(house, spans, all, wanted)) {
                return NONE;
            }
            int needed = 0;
            for (int teaching = 0; teaching < house.teachings; teaching++) {
                if (!holdsWith(house, spans, all ^ 1 << teaching, wanted)) {
                    needed |= 1 << teaching;
                }
            }
            int found = all;
            int least = Integer.MAX_VALUE;
            for (int set = 0; set <= all; set++) {
                int pains = house.painsOf(set);
                if ((needed & ~set) == 0 && pains < least && holdsWith(house, spans, set, wanted)) {
                    found = set;
                    least = pains;
                }
            }
            return found;
        }

        private boolean holdsWith(House house, Spans spans, int teachingSet, long wanted) {
            System.arraycopy(house.canDo, 0, canDo, 0, MOST_PEOPLE);
            for (int teaching = 0; teaching < house.teachings; teaching++) {
                int learner = house.learners[teaching];
                if ((teachingSet >> teaching & 1) != 0 && house.hasPerson(learner)) {
                    canDo[learner] |= 1 << house.lessons[teaching];
                }
            }
            lefts.fill(house, spans, canDo);
            return lefts.includes(house.allWorks(), wanted);
        }

        /** BOUND, if so many must be able to do each work. */
        int bound(House house, int many) {
            int sum = 0;
            for (int work = 0; work < house.works; work++) {
                int missing = many - Integer.bitCount(house.doers[work]);
                int used = 0;
                for (int i = 0; i < missing; i++) {
                    int teaching = cheapestOf(house, work, used);
                    if (teaching == NONE) {
                        return NONE;
                    }
                    used |= 1 << teaching;
                    sum += house.pains[teaching];
                }
            }
            return sum;
        }

        private static int cheapestOf(House house, int work, int used) {
            int found = NONE;
            for (int teaching = 0; teaching < house.teachings; teaching++) {
                boolean free = house.lessons[teaching] == work && (used >> teaching & 1) == 0;
                if (free && (found == NONE || house.pains[teaching] < house.pains[found])) {
                    found = teaching;
                }
            }
            return found;
        }
    }

    /** What the guest would see of each who may be away, and behind them of nobody away. */
    private static final class Guest {
        private final int[] seen = new int[MOST_PEOPLE + 1];
        private final int[] chances = new int[MOST_PEOPLE + 1];
        private boolean ready;

        void reset() {
            ready = false;
        }

        /** How likely he is right: of those of whom he sees the same the first likeliest counts. */
        int likelyRight(House house, Spans spans, Rows rows, int works) {
            if (!ready) {
                prepare(house, spans, rows);
            }
            int looked = signsOf(house, works);
            int sum = 0;
            for (int away = 0; away <= house.people; away++) {
                boolean likeliest = true;
                for (int other = 0; other <= house.people; other++) {
                    boolean likelier = other < away ? chances[other] >= chances[away]
                            : chances[other] > chances[away];
                    if (likelier && (seen[other] & looked) == (seen[away] & looked)) {
                        likeliest = false;
                    }
                }
                sum += likeliest ? chances[away] : 0;
            }
            return sum;
        }

        private void prepare(House house, Spans spans, Rows rows) {
            int everybody = house.allPeople();
            for (int away = 0; away < house.people; away++) {
                seen[away] = skillsSeen(house, rows.rankOfDay(house, spans, everybody ^ 1 << away));
                chances[away] = house.chances[away];
            }
            seen[house.people] = skillsSeen(house, rows.rankOfDay(house, spans, everybody));
            chances[house.people] = THOUSAND - house.allChances();
            ready = true;
        }

        /** The skills by which works are done, four bits each. */
        private static int skillsSeen(House house, long rank) {
            int skills = 0;
            for (int work = 0; work < house.works && rank != Rows.NEVER; work++) {
                int person = Rows.doerIn(Rows.codeOf(rank), work);
                if (house.hasPerson(person)) {
                    skills |= house.skills[person * MOST_WORKS + work] << 4 * work;
                }
            }
            return skills;
        }

        private static int signsOf(House house, int works) {
            int signs = 0;
            for (int work = 0; work < house.works; work++) {
                if ((works >> work & 1) != 0) {
                    signs |= 15 << 4 * work;
                }
            }
            return signs;
        }
    }

    /** Weeks by a seed. */
    private static final class Weeks {
        private static final int AWAY_PLACE = 24;

        boolean begun;
        int been;
        private int seed;
        /** Of each week the row as a code, and above it who was away. */
        private final int[] log = new int[MOST_WEEKS];
        /** Of each person and work the week in which he did it last; -1: never. */
        final int[] latest = new int[MOST_PEOPLE * MOST_WORKS];
        final int[] known = new int[MOST_PEOPLE];

        void start(House house, int newSeed) {
            begun = true;
            been = 0;
            seed = newSeed;
            Arrays.fill(latest, -1);
            System.arraycopy(house.canDo, 0, known, 0, MOST_PEOPLE);
        }

        void stop() {
            begun = false;
            been = 0;
        }

        void become(Weeks other) {
            begun = other.begun;
            been = other.been;
            seed = other.seed;
            System.arraycopy(other.log, 0, log, 0, MOST_WEEKS);
            System.arraycopy(other.latest, 0, latest, 0, latest.length);
            System.arraycopy(other.known, 0, known, 0, MOST_PEOPLE);
        }

        /** One week more, for which there is room. */
        void live(House house, Spans spans, Rows rows) {
            if (been >= MOST_WEEKS) {
                return;
            }
            int away = drawAway(house);
            int code = rows.codeOfWeek(house, spans, this, away);
            for (int work = 0; work < house.works; work++) {
                int person = Rows.doerIn(code, work);
                if (house.hasPerson(person)) {
                    latest[person * MOST_WORKS + work] = been;
                }
            }
            if (house.forgetAfter != 0) {
                dropUnused(house);
            }
            log[been] = away << AWAY_PLACE | code;
            been++;
        }

        private int drawAway(House house) {
            int drawn = draw(THOUSAND);
            int sum = 0;
            for (int person = 0; person < house.people; person++) {
                sum += house.chances[person];
                if (sum > drawn) {
                    return person;
                }
            }
            return NOBODY;
        }

        private int draw(int n) {
            seed = seed * 1103515245 + 12345;
            return (seed >>> 16 & 32767) % Math.max(1, n);
        }

        /** What was never done counts as done in week -1, so it stays as long as the document says. */
        private void dropUnused(House house) {
            for (int person = 0; person < house.people; person++) {
                for (int work = 0; work < house.works; work++) {
                    if (latest[person * MOST_WORKS + work] <= been - house.forgetAfter) {
                        known[person] &= ~(1 << work);
                    }
                }
            }
        }

        int awayIn(int week) {
            int away = log[week] >> AWAY_PLACE;
            return away == NOBODY ? NONE : away;
        }

        int doerIn(int week, int work) {
            return Rows.doerIn(log[week], work);
        }

        int doneIn(House house, int week) {
            int done = 0;
            for (int work = 0; work < house.works; work++) {
                if (doerIn(week, work) != NONE) {
                    done++;
                }
            }
            return done;
        }
    }
}
