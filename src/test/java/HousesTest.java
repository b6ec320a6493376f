/** The empty house, the house of one and full houses: all that they answer is held against the model. */
public final class HousesTest {
    private static final int WEEKS = 4;

    private final FullHouse house = new FullHouse();
    private final Model model = new Model();

    private void same(String name, Check.Call got, Check.Call due) {
        Check.due(name, Check.outcome(due), got);
    }

    private void take(String text) {
        int[] n = Model.numbers(text);
        for (int i = 0; i < n.length; i += 5) {
            int k = i;
            same("feed", () -> house.feed(n[k], n[k + 1], n[k + 2], n[k + 3], n[k + 4]),
                    () -> model.feed(n[k], n[k + 1], n[k + 2], n[k + 3], n[k + 4]));
        }
        same("house", () -> house.house(text.length()), () -> model.house(text.length()));
    }

    private void days() {
        for (int set = 0; set < 1 << model.count(0); set += 1 + set / 16) {
            int left = set;
            same("day " + left, () -> house.day(left), () -> model.day(left));
            same("most " + left, () -> house.most(left), () -> model.most(left));
            same("bars " + left, () -> house.bars(left), () -> model.bars(left));
            for (int work = -1; work <= model.count(1); work += 3) {
                int w = work;
                same("does " + w + " of " + left, () -> house.does(w), () -> model.does(w));
            }
        }
    }

    private void wholes() {
        for (int n = 0; n < 4; n++) {
            int what = n;
            same("any " + what, () -> house.any(what), () -> model.any(what));
            same("learn one " + what, () -> house.learn(false, what), () -> model.learn(false, what));
            same("learn two " + what, () -> house.learn(true, what), () -> model.learn(true, what));
        }
        same("more", house::more, model::more);
        for (int set = 0; set < 1 << model.count(1); set += 1 + set / 4) {
            int works = set;
            same("looks " + works, () -> house.looks(works), () -> model.looks(works));
        }
        for (int n = 0; n <= model.count(0); n++) {
            int person = n;
            same("upper part of " + n, () -> house.worth(person, 0), () -> model.worth(person, 0));
            same("lower part of " + n, () -> house.worth(person, 1), () -> model.worth(person, 1));
        }
    }

    private void weeks() {
        house.begin(3);
        model.begin(3);
        same("on", () -> house.on(WEEKS), () -> model.on(WEEKS));
        for (int n = 0; n <= WEEKS; n++) {
            int week = n;
            for (int what = 0; what < 19; what++) {
                int of = what;
                same("week " + week + " " + of, () -> house.week(week, of), () -> model.week(week, of));
            }
        }
        for (int n = 0; n <= model.count(0); n++) {
            int person = n;
            same("knows " + n, () -> house.knows(person), () -> model.knows(person));
        }
    }

    public static void main(String[] args) {
        for (String text : new String[] {"", "person 5;", Houses.ofOne(), Houses.full(), Houses.idle()}) {
            HousesTest test = new HousesTest();
            test.take(text);
            test.days();
            test.wholes();
            test.weeks();
        }
        Check.end();
    }
}
