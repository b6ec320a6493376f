import java.util.NoSuchElementException;
import java.util.Random;

/** Runs of calls by chance, each answer held against the model's, which tries everything. */
public final class RandomRunsTest {
    private static final int RUNS = 1500;
    private static final int CALLS = 300;
    private static final String[] WORDS = {"person", "work", "can", "learn", "forget", "drawn", ";", " ",
        "\n", "0", "1", "9", "00", "12345", "x", "P", "-", "\t", "\u00e9"};

    private static int wrong = 0;

    private interface Call {
        long answer();
    }

    private static String outcome(Call call) {
        try {
            return Long.toString(call.answer());
        } catch (NoSuchElementException e) {
            return "throws NoSuchElementException";
        } catch (IllegalArgumentException e) {
            return e.getClass() == IllegalArgumentException.class
                    ? "throws IllegalArgumentException" : "throws " + e.getClass();
        } catch (RuntimeException e) {
            return "throws " + e.getClass();
        }
    }

    private final Random random;
    private final FullHouse house = new FullHouse();
    private final Model model = new Model();
    private final StringBuilder story = new StringBuilder();
    private boolean same = true;

    private RandomRunsTest(long seed) {
        random = new Random(seed);
    }

    private void compare(String name, Call got, Call due) {
        String answer = outcome(got);
        String want = outcome(due);
        story.append(name).append(" -> ").append(answer).append('\n');
        if (!answer.equals(want)) {
            same = false;
            story.append("  due is ").append(want).append('\n');
        }
    }

    private int below(int n) {
        return random.nextInt(n);
    }

    /** Mostly one of 0 to n - 1, seldom one beside. */
    private int near(int n) {
        int chance = below(40);
        if (chance == 0) {
            return random.nextInt();
        }
        if (chance < 4 || n <= 0) {
            return below(n + 4) - 2;
        }
        return below(n);
    }

    private String text() {
        boolean full = below(100) == 0;
        int people = full ? 6 : below(6) == 0 ? below(7) : 1 + below(4);
        int works = full ? 8 : below(6) == 0 ? below(9) : 1 + below(5);
        StringBuilder text = new StringBuilder();
        int chances = below(12) == 0 ? 1400 : 1000;
        for (int p = 0; p < people; p++) {
            text.append("person ").append(below(5) == 0 ? 24 : below(13));
            if (below(3) > 0) {
                int like = Math.min(chances, 100 * (1 + below(3)));
                int chance = below(8) == 0 ? chances : below(3) == 0 ? like : below(chances / 2 + 1);
                chances -= chance;
                text.append(" drawn ").append(chance);
            }
            text.append(";");
        }
        for (int w = 0; w < works; w++) {
            text.append("work ").append(below(17)).append(" ").append(1 + below(below(2) == 0 ? 3 : 8));
            text.append(below(9) == 0 ? " ;\n" : ";");
        }
        int density = 1 + below(4);
        int teachings = 0;
        for (int p = 0; p < people; p++) {
            for (int w = 0; w < works; w++) {
                if (below(5) < density) {
                    text.append("can ").append(p).append(" ").append(w).append(" ");
                    text.append(1 + below(9)).append(";");
                } else if (below(2) == 0 && teachings < 8) {
                    text.append("learn ").append(p).append(" ").append(w).append(" ");
                    text.append(1 + below(9)).append(" ").append(1 + below(below(2) == 0 ? 3 : 99));
                    text.append(";");
                    teachings++;
                }
            }
        }
        if (below(3) > 0) {
            text.append("forget ").append(1 + below(below(3) == 0 ? 50 : 6)).append(";");
        }
        return spoil(text);
    }

    private String spoil(StringBuilder text) {
        int spoils = below(3) == 0 ? 1 + below(2) : 0;
        for (int i = 0; i < spoils && text.length() > 0; i++) {
            int at = below(text.length());
            switch (below(4)) {
                case 0 -> text.deleteCharAt(at);
                case 1 -> text.insert(at, WORDS[below(WORDS.length)]);
                case 2 -> text.setLength(at);
                default -> text.append(WORDS[below(WORDS.length)]);
            }
        }
        return text.length() > 800 ? text.substring(0, 800) : text.toString();
    }

    private void tellHouse() {
        String text = text();
        int[] n = Model.numbers(text);
        for (int i = 0; i < n.length; i += 5) {
            int k = i;
            compare("feed", () -> house.feed(n[k], n[k + 1], n[k + 2], n[k + 3], n[k + 4]),
                    () -> model.feed(n[k], n[k + 1], n[k + 2], n[k + 3], n[k + 4]));
        }
        int size = below(30) == 0 ? near(801) : model.count(4) - n.length * 4 + text.length();
        story.append(text).append('\n');
        compare("house(" + size + ")", () -> house.house(size), () -> model.house(size));
        compare("fault()", house::fault, model::fault);
    }

    private void look(int call) {
        int people = model.count(0);
        int works = model.count(1);
        int p = near(people);
        int w = near(works);
        int what = near(4);
        int left = near(1 << people);
        switch (call) {
            case 0 -> compare("count(" + w + ")", () -> house.count(w), () -> model.count(w));
            case 1 -> compare("person " + p + " " + what, () -> house.person(p, what), () -> model.person(p, what));
            case 2 -> compare("work " + w + " " + what, () -> house.work(w, what), () -> model.work(w, what));
            case 3 -> compare("skill " + p + " " + w, () -> house.skill(p, w), () -> model.skill(p, w));
            case 4 -> compare("teaching " + w + " " + what, () -> house.teaching(w, what),
                    () -> model.teaching(w, what));
            case 5 -> compare("day " + left, () -> house.day(left), () -> model.day(left));
            case 6 -> compare("does " + w, () -> house.does(w), () -> model.does(w));
            case 7 -> compare("most " + left, () -> house.most(left), () -> model.most(left));
            case 8 -> compare("bars " + left, () -> house.bars(left), () -> model.bars(left));
            case 9 -> {
                int who = below(5) == 0 ? -1 : p;
                compare("tell " + w + " " + who, () -> house.tell(w, who) ? 1 : 0, () -> model.tell(w, who) ? 1 : 0);
            }
            case 10 -> tellTheRow();
            case 11 -> compare("judge " + left, () -> house.judge(left), () -> model.judge(left));
            case 12 -> compare("any " + what, () -> house.any(what), () -> model.any(what));
            case 13 -> {
                boolean two = below(2) == 0;
                int of = near(3);
                compare("learn " + two + " " + of, () -> house.learn(two, of), () -> model.learn(two, of));
            }
            case 14 -> compare("more", house::more, model::more);
            case 15 -> {
                int of = near(2);
                compare("worth " + p + " " + of, () -> house.worth(p, of), () -> model.worth(p, of));
            }
            default -> guess(call, p);
        }
    }

    /** What is kept, told as it is but for a work or two. */
    private void tellTheRow() {
        for (int w = 0; w < model.count(1); w++) {
            int work = w;
            long who = outcome(() -> model.does(work)).startsWith("throws") || below(6) == 0
                    ? below(Math.max(1, model.count(0))) : model.does(work);
            compare("tell " + w + " " + who, () -> house.tell(work, (int) who) ? 1 : 0,
                    () -> model.tell(work, (int) who) ? 1 : 0);
        }
        int all = (1 << model.count(0)) - 1;
        compare("judge " + all, () -> house.judge(all), () -> model.judge(all));
    }

    private void guess(int call, int p) {
        switch (call) {
            case 16 -> {
                int set = near(1 << model.count(1));
                compare("looks " + set, () -> house.looks(set), () -> model.looks(set));
            }
            case 17 -> {
                int many = near(model.count(1) + 1);
                compare("best " + many, () -> house.best(many), () -> model.best(many));
            }
            case 18 -> {
                int told = near(1001);
                compare("often " + p + " " + told, () -> house.often(p, told), () -> model.often(p, told));
            }
            case 19 -> {
                int n = below(3) == 0 ? near(5001) : near(30);
                compare("seldom " + p + " " + n, () -> house.seldom(p, n), () -> model.seldom(p, n));
            }
            default -> live(call, p);
        }
    }

    private void live(int call, int p) {
        switch (call) {
            case 20 -> {
                int seed = below(2) == 0 ? below(100) : random.nextInt();
                story.append("begin ").append(seed).append('\n');
                house.begin(seed);
                model.begin(seed);
            }
            case 21, 22 -> {
                int weeks = below(4) == 0 ? near(61) : near(9);
                compare("on " + weeks, () -> house.on(weeks), () -> model.on(weeks));
            }
            case 23, 24 -> {
                int week = near(model.count(8));
                int what = below(3) == 0 ? near(3) : 10 + near(model.count(1));
                compare("week " + week + " " + what, () -> house.week(week, what), () -> model.week(week, what));
            }
            case 25 -> compare("knows " + p, () -> house.knows(p), () -> model.knows(p));
            case 26 -> compare("image", () -> house.image() ? 1 : 0, () -> model.image() ? 1 : 0);
            default -> compare("restore", () -> house.restore() ? 1 : 0, () -> model.restore() ? 1 : 0);
        }
    }

    private void run() {
        for (int i = 0; i < CALLS && same; i++) {
            if (i == 5 || below(40) == 0) {
                tellHouse();
            } else {
                look(below(28));
            }
            for (int what = 0; what < 9; what++) {
                int of = what;
                if (house.count(of) != model.count(of)) {
                    compare("count(" + what + ")", () -> house.count(of), () -> model.count(of));
                }
            }
        }
    }

    public static void main(String[] args) {
        int runs = args.length > 1 ? Integer.parseInt(args[1]) : RUNS;
        long first = args.length > 2 ? Long.parseLong(args[2]) : 1;
        for (long seed = first; seed < first + runs; seed++) {
            RandomRunsTest test = new RandomRunsTest(seed);
            test.run();
            if (!test.same) {
                wrong++;
                System.out.println("seed " + seed + ":\n" + test.story);
                break;
            }
        }
        System.exit(wrong == 0 ? 0 : 1);
    }
}
