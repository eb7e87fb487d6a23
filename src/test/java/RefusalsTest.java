import java.util.ArrayList;
import java.util.List;
import java.util.NoSuchElementException;
import java.util.function.Supplier;

/**
 * "REFUSALS, the first that holds": every call with the least and the greatest numbers that are allowed,
 * the first ones beyond and the farthest ones, each with each, so that several refusals hold at once; and
 * a refused call changes nothing.
 */
public final class RefusalsTest {
    private static final Class<NoSuchElementException> MISSING = NoSuchElementException.class;
    private static final Class<IllegalArgumentException> ARGUMENT = IllegalArgumentException.class;
    private static final Class<IllegalStateException> STATE = IllegalStateException.class;
    private static final Class<UnsupportedOperationException> FULL = UnsupportedOperationException.class;
    private static final List<Class<? extends RuntimeException>> IN_ORDER = List.of(MISSING, ARGUMENT, STATE, FULL);
    private static final int FINE = IN_ORDER.size();

    private static final int LEAST = Integer.MIN_VALUE;
    private static final int MOST = Integer.MAX_VALUE;

    private static final Check CHECK = new Check();

    /** A call with numbers; 0 where it answers nothing. */
    private interface Call {
        int make(BeltRows x, int[] numbers);
    }

    /** A number, and the place in IN_ORDER of the refusal that it brings by itself. */
    private record Given(int number, int refusal) {
    }

    public static void main(String[] args) {
        belt();
        join();
        run();
        gaps();
        scanner();
        item();
        divert();
        step();
        edge();
        slip();
        take();
        clean();
        gap();
        told();
        known();
        order();
        mean();
        CHECK.end();
    }

    // Belts 0 to 4, belt 2 stopped; item 1 out, 2 taken, 3 and 4 on belt 0 at 700 and 300, 5 on belt 1
    // at 100, 6 on belt 2 at 0; one edge, a read to come, 2 scanners, second 9.
    private static BeltRows usual() {
        BeltRows x = Rows.withBelts(1000, 100, 1000, 100, 1000, 100, 10, 10, 10000, 1000);
        x.join(0, 0, 2, 1);
        x.join(0, 1, 3, 2);
        x.join(1, 0, 2, 9);
        x.scanner(0, 350, 20);
        x.scanner(2, 10, 1);
        x.item(3, 5);
        x.step(2);
        x.item(0, 7);
        x.take(2);
        x.item(0, 50);
        x.step(4);
        x.item(0, 20);
        x.step(2);
        x.divert(4, 1);
        x.item(1, 1000);
        x.step(1);
        x.run(2, 100, false);
        x.item(2, 30);
        return x;
    }

    private static BeltRows full() {
        BeltRows x = usual();
        x.scanner(3, 1, 1);
        x.scanner(4, 1, 1);
        for (int belts = 5; belts < 8; belts++) {
            x.belt(10, 10);
        }
        for (int items = 6; items < 60; items++) {
            x.take(x.item(4, 1));
        }
        return x;
    }

    private static void usualIsAsTold() {
        BeltRows x = usual();
        CHECK.countIs(x, 5, 6, 4, 1, 1, 9, 2, 1);
        CHECK.toldIs(x, 1, 1, 3, -1);
        CHECK.toldIs(x, 2, 2, 0, -1);
        CHECK.toldIs(x, 3, 0, 0, 700);
        CHECK.toldIs(x, 4, 0, 0, 300);
        CHECK.toldIs(x, 5, 0, 1, 100);
        CHECK.toldIs(x, 6, 0, 2, 0);
        CHECK.countIs(full(), 8, 60, 4, 1, 1, 9, 4, 1);
    }

    private static List<Given> fine(int... numbers) {
        List<Given> all = new ArrayList<>();
        for (int number : numbers) {
            all.add(new Given(number, FINE));
        }
        return all;
    }

    private static List<Given> and(List<Given> some, Class<?> refusal, int... numbers) {
        for (int number : numbers) {
            some.add(new Given(number, IN_ORDER.indexOf(refusal)));
        }
        return some;
    }

    private static List<Given> range(int least, int most) {
        return and(fine(least, most), ARGUMENT, least - 1, most + 1, LEAST, MOST);
    }

    private static List<Given> whats(int most) {
        List<Given> all = range(0, most);
        for (int what = 1; what < most; what++) {
            all.add(new Given(what, FINE));
        }
        return all;
    }

    private static List<Given> beltsOf(Supplier<BeltRows> world) {
        int many = world.get().count(0);
        return and(fine(0, many - 1), MISSING, -1, many, LEAST, MOST);
    }

    private static List<Given> itemsOnBelts() {
        return and(and(fine(3, 4, 5, 6), STATE, 1, 2), MISSING, 0, 7, -1, LEAST, MOST);
    }

    @SafeVarargs
    private static void each(String name, Supplier<BeltRows> world, int otherwise, Call call, List<Given>... given) {
        int many = 1;
        for (List<Given> numbers : given) {
            many *= numbers.size();
        }
        for (int turn = 0; turn < many; turn++) {
            int rest = turn;
            int refusal = otherwise;
            int[] numbers = new int[given.length];
            StringBuilder text = new StringBuilder(name);
            for (int i = 0; i < given.length; i++) {
                Given one = given[i].get(rest % given[i].size());
                rest /= given[i].size();
                numbers[i] = one.number();
                refusal = Math.min(refusal, one.refusal());
                text.append(' ').append(one.number());
            }
            answered(text.toString(), world, refusal, call, numbers);
        }
    }

    private static void answered(String name, Supplier<BeltRows> world, int refusal, Call call, int... numbers) {
        BeltRows x = world.get();
        if (refusal == FINE) {
            try {
                call.make(x, numbers);
                CHECK.is(name, 0, 0);
            } catch (RuntimeException e) {
                CHECK.complain(name + " threw " + e + ", due is an answer");
            }
            return;
        }
        CHECK.fails(name, IN_ORDER.get(refusal), () -> call.make(x, numbers));
        BeltRows twin = world.get();
        same(name + ": at once", Rows.seen(x), Rows.seen(twin));
        same(name + ": later", future(x), future(twin));
    }

    private static void same(String what, String got, String due) {
        CHECK.is(what, got.equals(due) ? 1 : 0, 1);
    }

    // Ways that items were told, the gap and the shares show only in what comes then.
    private static String future(BeltRows x) {
        StringBuilder all = new StringBuilder();
        for (int item = 1; item <= x.count(1); item++) {
            if (x.told(item, 0) == 0) {
                all.append(' ').append(x.divert(item, x.told(item, 4)));
            }
        }
        for (int belt = 0; belt < 8; belt++) {
            all.append(' ').append(belt < x.count(0) ? x.known(belt, 1) : x.belt(50, 10));
            x.run(belt, x.known(belt, 1), true);
        }
        for (int second = 0; second < 12; second++) {
            for (int belt = 0; belt < x.count(0) && x.count(1) < 60; belt++) {
                all.append(' ').append(x.item(belt, 1));
            }
            all.append(" : ").append(x.step(1)).append(' ');
        }
        x.step(30);
        return all.append(Rows.seen(x)).toString();
    }

    private static void belt() {
        usualIsAsTold();
        Call call = (x, n) -> x.belt(n[0], n[1]);
        each("belt", BeltRows::new, FINE, call, range(1, 10000), range(0, 1000));
        each("belt", RefusalsTest::usual, FINE, call, range(1, 10000), range(0, 1000));
        each("belt of full", RefusalsTest::full, IN_ORDER.indexOf(FULL), call, range(1, 10000), range(0, 1000));
    }

    private static void join() {
        Call call = (x, n) -> x.join(n[0], n[1], n[2], n[3]);
        for (int belt = 0; belt < 5; belt++) {
            List<Given> to = and(fine(), MISSING, -1, 5, LEAST, MOST);
            for (int other = 0; other < 5; other++) {
                to.add(new Given(other, other > belt ? FINE : IN_ORDER.indexOf(ARGUMENT)));
            }
            each("join", RefusalsTest::usual, FINE, call, fine(belt), range(0, 1), to, range(1, 9));
        }
        List<Given> noBelt = and(fine(), MISSING, -1, 5, LEAST, MOST);
        List<Given> any = fine(LEAST, -1, 0, 4, 5, MOST);
        each("join", RefusalsTest::usual, FINE, call, noBelt, range(0, 1), any, range(1, 9));
        each("join of new", BeltRows::new, IN_ORDER.indexOf(MISSING), call, any, range(0, 1), any, range(1, 9));
        each("join of full", RefusalsTest::full, FINE, call, fine(0, 6), range(0, 1), fine(7), range(1, 9));
    }

    private static void run() {
        for (boolean on : new boolean[] {false, true}) {
            Call call = (x, n) -> {
                x.run(n[0], n[1], on);
                return 0;
            };
            each("run " + on, RefusalsTest::usual, FINE, call, beltsOf(RefusalsTest::usual), range(0, 1000));
            each("run of full " + on, RefusalsTest::full, FINE, call, beltsOf(RefusalsTest::full), range(0, 1000));
            each("run of new " + on, BeltRows::new, IN_ORDER.indexOf(MISSING), call, fine(0, 1, -1), range(0, 1000));
        }
    }

    private static void gaps() {
        Call call = (x, n) -> {
            x.gaps(n[0]);
            return 0;
        };
        each("gaps", RefusalsTest::usual, FINE, call, range(0, 1000));
        each("gaps of new", BeltRows::new, FINE, call, range(0, 1000));
    }

    private static void scanner() {
        Call call = (x, n) -> x.scanner(n[0], n[1], n[2]);
        int full = IN_ORDER.indexOf(FULL);
        int[] lengths = {1000, 1000, 1000, 10, 10000};
        for (int belt = 0; belt < lengths.length; belt++) {
            List<Given> places = range(1, lengths[belt]);
            each("scanner", RefusalsTest::usual, FINE, call, fine(belt), places, range(1, 20));
            each("scanner of full", RefusalsTest::full, full, call, fine(belt), places, range(1, 20));
        }
        List<Given> noBelt = and(fine(), MISSING, -1, 8, LEAST, MOST);
        each("scanner", RefusalsTest::usual, FINE, call, noBelt, range(1, 10), range(1, 20));
        each("scanner of full", RefusalsTest::full, full, call, noBelt, range(1, 10), range(1, 20));
        each("scanner", RefusalsTest::usual, IN_ORDER.indexOf(MISSING), call, fine(5), range(1, 10), range(1, 20));
    }

    private static void item() {
        Call call = (x, n) -> x.item(n[0], n[1]);
        int full = IN_ORDER.indexOf(FULL);
        each("item", RefusalsTest::usual, FINE, call, beltsOf(RefusalsTest::usual), range(1, 2000));
        each("item of full", RefusalsTest::full, full, call, beltsOf(RefusalsTest::full), range(1, 2000));
        each("item of new", BeltRows::new, IN_ORDER.indexOf(MISSING), call, fine(0, 1, -1), range(1, 2000));
    }

    private static void divert() {
        Call call = (x, n) -> x.divert(n[0], n[1]);
        each("divert", RefusalsTest::usual, FINE, call, itemsOnBelts(), range(0, 1));
        List<Given> last = and(and(fine(), STATE, 60), MISSING, 61);
        each("divert of full", RefusalsTest::full, FINE, call, last, range(0, 1));
        each("divert of new", BeltRows::new, IN_ORDER.indexOf(MISSING), call, fine(0, 1), range(0, 1));
    }

    private static void step() {
        Call call = (x, n) -> x.step(n[0]);
        each("step", RefusalsTest::usual, FINE, call, range(0, 100));
        each("step of new", BeltRows::new, FINE, call, range(0, 100));
    }

    private static void edge() {
        Call call = (x, n) -> x.edge(n[0], n[1]);
        each("edge", RefusalsTest::usual, FINE, call, and(fine(0), MISSING, -1, 1, LEAST, MOST), whats(3));
        each("edge of new", BeltRows::new, IN_ORDER.indexOf(MISSING), call, fine(0, -1), whats(3));
    }

    private static void slip() {
        Call call = (x, n) -> x.slip(n[0], n[1]);
        List<Given> wrong = and(fine(), ARGUMENT, 0, -1, 1001, LEAST, MOST);
        List<Given> ofThree = and(and(fine(1, 250), STATE, 251, 700, 701, 1000), ARGUMENT, 0, -1, 1001, LEAST, MOST);
        List<Given> ofFour = and(and(fine(1, 300), STATE, 301, 1000), ARGUMENT, 0, -1, 1001, LEAST, MOST);
        List<Given> ofFive = and(and(fine(1, 100), STATE, 101, 1000), ARGUMENT, 0, -1, 1001, LEAST, MOST);
        List<Given> ofSix = and(and(fine(), STATE, 1, 1000), ARGUMENT, 0, -1, 1001, LEAST, MOST);
        each("slip", RefusalsTest::usual, FINE, call, fine(3), ofThree);
        each("slip", RefusalsTest::usual, FINE, call, fine(4), ofFour);
        each("slip", RefusalsTest::usual, FINE, call, fine(5), ofFive);
        each("slip", RefusalsTest::usual, FINE, call, fine(6), ofSix);
        List<Given> onNone = and(and(fine(), STATE, 1, 2), MISSING, 0, 7, -1, LEAST, MOST);
        wrong.addAll(fine(1, 1000));
        each("slip", RefusalsTest::usual, FINE, call, onNone, wrong);
    }

    private static void take() {
        Call call = (x, n) -> {
            x.take(n[0]);
            return 0;
        };
        each("take", RefusalsTest::usual, FINE, call, itemsOnBelts());
        each("take of new", BeltRows::new, IN_ORDER.indexOf(MISSING), call, fine(0, 1));
    }

    private static void clean() {
        Call call = (x, n) -> x.clean(n[0]);
        List<Given> belts = and(and(fine(2), STATE, 0, 1, 3, 4), MISSING, -1, 5, LEAST, MOST);
        each("clean", RefusalsTest::usual, FINE, call, belts);
        each("clean of new", BeltRows::new, IN_ORDER.indexOf(MISSING), call, fine(0, -1));
    }

    private static void gap() {
        Call call = (x, n) -> x.gap(n[0], n[1]);
        int[] all = {LEAST, -1, 0, 1, 2, 3, 4, 5, 6, 7, MOST};
        for (int one : all) {
            for (int other : all) {
                boolean there = 1 <= one && one <= 6 && 1 <= other && other <= 6;
                boolean two = one == 3 && other == 4 || one == 4 && other == 3;
                int refusal = two ? FINE : IN_ORDER.indexOf(there ? STATE : MISSING);
                answered("gap " + one + " " + other, RefusalsTest::usual, refusal, call, one, other);
            }
        }
    }

    private static void told() {
        Call call = (x, n) -> x.told(n[0], n[1]);
        List<Given> items = and(fine(1, 2, 3, 6), MISSING, 0, 7, -1, LEAST, MOST);
        each("told", RefusalsTest::usual, FINE, call, items, whats(6));
        each("told of full", RefusalsTest::full, FINE, call, and(fine(60), MISSING, 61), whats(6));
    }

    private static void known() {
        Call call = (x, n) -> x.known(n[0], n[1]);
        each("known", RefusalsTest::usual, FINE, call, beltsOf(RefusalsTest::usual), whats(8));
        each("known of full", RefusalsTest::full, FINE, call, beltsOf(RefusalsTest::full), whats(8));
    }

    private static void order() {
        Call call = (x, n) -> x.order(n[0]);
        each("order", RefusalsTest::usual, FINE, call, and(fine(0), MISSING, 1, -1, LEAST, MOST));
        each("order of new", BeltRows::new, IN_ORDER.indexOf(MISSING), call, fine(0, 1, -1));
    }

    private static void mean() {
        BeltRows x = Rows.withBelts(10, 10);
        x.item(0, 1);
        String before = Rows.seen(x);
        CHECK.fails("mean", ArithmeticException.class, () -> x.mean());
        same("mean", Rows.seen(x), before);
    }
}
