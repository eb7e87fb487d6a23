import java.util.NoSuchElementException;

/** Each promise of the document by itself: ordinary inputs, edges, and refusals in their order. */
public final class PromisesTest {
    private static final Class<NoSuchElementException> MISSING = NoSuchElementException.class;
    private static final Class<IllegalArgumentException> ARGUMENT = IllegalArgumentException.class;
    private static final Class<IllegalStateException> STATE = IllegalStateException.class;
    private static final Class<UnsupportedOperationException> FULL = UnsupportedOperationException.class;
    private static final Class<ArithmeticException> ARITHMETIC = ArithmeticException.class;

    private static final Check CHECK = new Check();

    public static void main(String[] args) {
        newObject();
        belt();
        join();
        joinAgain();
        run();
        gaps();
        gapsGrown();
        scanner();
        scannerReads();
        scannersOfOneSecond();
        readsThatWaitLonger();
        readAfterOut();
        item();
        itemsFull();
        divert();
        waysThatAreNot();
        step();
        moves();
        roomForPassing();
        merges();
        edge();
        slip();
        slipReadAgain();
        take();
        clean();
        gap();
        told();
        expectedOfWaiting();
        known();
        order();
        mean();
        count();
        CHECK.end();
    }

    // Promise 1
    private static void newObject() {
        BeltRows x = new BeltRows();
        for (int what = 0; what <= 7; what++) {
            CHECK.is("new: count(" + what + ")", x.count(what), 0);
        }
        CHECK.fails("new: known(0, 0)", MISSING, () -> x.known(0, 0));
        CHECK.fails("new: told(1, 0)", MISSING, () -> x.told(1, 0));
        CHECK.fails("new: item(0, 1)", MISSING, () -> x.item(0, 1));
        CHECK.fails("new: edge(0, 0)", MISSING, () -> x.edge(0, 0));
        CHECK.fails("new: order(0)", MISSING, () -> x.order(0));
        CHECK.fails("new: mean()", ARITHMETIC, () -> x.mean());
        CHECK.is("new: step(100)", x.step(100), 0);
        CHECK.is("new: other objects share nothing", new BeltRows().count(5), 0);
    }

    // Promise 2
    private static void belt() {
        BeltRows x = new BeltRows();
        CHECK.fails("belt(0, 0)", ARGUMENT, () -> x.belt(0, 0));
        CHECK.fails("belt(-1, 0)", ARGUMENT, () -> x.belt(-1, 0));
        CHECK.fails("belt(10001, 0)", ARGUMENT, () -> x.belt(10001, 0));
        CHECK.fails("belt(1, -1)", ARGUMENT, () -> x.belt(1, -1));
        CHECK.fails("belt(1, 1001)", ARGUMENT, () -> x.belt(1, 1001));
        CHECK.is("no belt was made", x.count(0), 0);
        CHECK.is("belt(1, 0)", x.belt(1, 0), 0);
        CHECK.is("belt(10000, 1000)", x.belt(10000, 1000), 1);
        CHECK.is("it runs", x.known(1, 2), 1);
        for (int i = 2; i < 8; i++) {
            CHECK.is("belt(5, 5)", x.belt(5, 5), i);
        }
        CHECK.fails("a ninth belt", FULL, () -> x.belt(5, 5));
        CHECK.fails("a ninth belt of no length", ARGUMENT, () -> x.belt(0, 5));
        CHECK.fails("a ninth belt too fast", ARGUMENT, () -> x.belt(5, 1001));
        CHECK.is("eight belts", x.count(0), 8);
    }

    // Promise 3
    private static void join() {
        BeltRows x = Rows.withBelts(100, 100, 100, 100, 100, 100);
        CHECK.fails("join(-1, 0, 1, 1)", MISSING, () -> x.join(-1, 0, 1, 1));
        CHECK.fails("join(3, 0, 1, 1)", MISSING, () -> x.join(3, 0, 1, 1));
        CHECK.fails("join(0, 0, 3, 1)", MISSING, () -> x.join(0, 0, 3, 1));
        CHECK.fails("join(0, 0, -1, 1)", MISSING, () -> x.join(0, 0, -1, 1));
        CHECK.fails("join(0, 9, 3, 0)", MISSING, () -> x.join(0, 9, 3, 0));
        CHECK.fails("join(0, -1, 1, 1)", ARGUMENT, () -> x.join(0, -1, 1, 1));
        CHECK.fails("join(0, 2, 1, 1)", ARGUMENT, () -> x.join(0, 2, 1, 1));
        CHECK.fails("join(0, 0, 1, 0)", ARGUMENT, () -> x.join(0, 0, 1, 0));
        CHECK.fails("join(0, 0, 1, 10)", ARGUMENT, () -> x.join(0, 0, 1, 10));
        CHECK.fails("join(1, 0, 1, 1)", ARGUMENT, () -> x.join(1, 0, 1, 1));
        CHECK.fails("join(1, 0, 0, 1)", ARGUMENT, () -> x.join(1, 0, 0, 1));
        CHECK.is("nothing was joined", x.known(0, 5), -1);
        CHECK.is("join(0, 0, 2, 1)", x.join(0, 0, 2, 1), 1);
        CHECK.is("join(0, 1, 2, 9)", x.join(0, 1, 2, 9), 2);
        CHECK.is("join(1, 1, 2, 9)", x.join(1, 1, 2, 9), 3);
        CHECK.is("join(0, 0, 1, 1)", x.join(0, 0, 1, 1), 1);
        CHECK.is("join(1, 1, 2, 3)", x.join(1, 1, 2, 3), 2);
        CHECK.is("known(0, 5)", x.known(0, 5), 1);
        CHECK.is("known(0, 6)", x.known(0, 6), 2);
        CHECK.is("known(1, 5)", x.known(1, 5), -1);
        CHECK.is("known(1, 6)", x.known(1, 6), 2);
    }

    private static void joinAgain() {
        BeltRows x = Rows.withBelts(100, 100, 100, 100, 100, 100);
        x.join(0, 0, 1, 1);
        x.join(0, 1, 2, 1);
        x.item(0, 1);
        x.step(2);
        CHECK.is("one went by way 0", x.known(0, 7), 1);
        x.join(0, 1, 1, 1);
        CHECK.is("way 0 keeps its number", x.known(0, 7), 1);
        x.join(0, 0, 1, 2);
        CHECK.is("way 0 is counted anew", x.known(0, 7), 0);
    }

    // Promise 4
    private static void run() {
        BeltRows x = Rows.withBelts(1000, 100, 1000, 100);
        x.join(0, 0, 1, 1);
        CHECK.fails("run(-1, 0, true)", MISSING, () -> x.run(-1, 0, true));
        CHECK.fails("run(2, -1, true)", MISSING, () -> x.run(2, -1, true));
        CHECK.fails("run(0, -1, false)", ARGUMENT, () -> x.run(0, -1, false));
        CHECK.fails("run(0, 1001, false)", ARGUMENT, () -> x.run(0, 1001, false));
        CHECK.is("still of its speed", x.known(0, 1), 100);
        CHECK.is("still running", x.known(0, 2), 1);
        x.item(0, 10);
        x.step(1);
        x.run(0, 1000, false);
        CHECK.is("known(0, 1)", x.known(0, 1), 1000);
        CHECK.is("known(0, 2)", x.known(0, 2), 0);
        x.step(1);
        CHECK.is("nothing moves on a stopped belt", x.told(1, 2), 100);
        x.run(0, 1000, true);
        x.step(1);
        CHECK.is("it runs again, to its end", x.told(1, 2), 1000);
        x.run(0, 1000, false);
        CHECK.is("a stopped belt passes nothing on", x.step(1), 0);
        x.run(0, 1000, true);
        x.run(1, 100, false);
        CHECK.is("a stopped belt takes nothing", x.step(1), 0);
        x.run(1, 0, true);
        CHECK.is("a running belt of speed 0 takes it", x.step(1), 1);
        CHECK.is("at its start", x.told(1, 2), 0);
        x.run(1, 1000, true);
        x.step(1);
        x.run(1, 1000, false);
        CHECK.is("nothing goes out of a stopped belt", x.step(1), 0);
        x.run(1, 0, true);
        CHECK.is("out of a running one of speed 0", x.step(1), 1);
    }

    // Promise 5
    private static void gaps() {
        BeltRows x = Rows.withBelts(1000, 200, 100, 0);
        x.join(0, 0, 1, 1);
        x.run(1, 0, false);
        CHECK.fails("gaps(-1)", ARGUMENT, () -> x.gaps(-1));
        CHECK.fails("gaps(1001)", ARGUMENT, () -> x.gaps(1001));
        x.item(0, 10);
        CHECK.is("the gap is 100 at first", x.item(0, 10), -110);
        x.gaps(1000);
        CHECK.is("the gap is 1000", x.item(0, 10), -1010);
        x.gaps(0);
        CHECK.is("the gap is 0", x.item(0, 10), -10);
        x.step(1);
        x.gaps(191);
        CHECK.is("one missing", x.item(0, 10), -1);
        x.gaps(190);
        CHECK.is("just room", x.item(0, 10), 2);
        x.step(10);
        CHECK.is("the first waits at the end", x.told(1, 2), 1000);
        CHECK.is("the other one a gap behind it", x.told(2, 2), 800);
    }

    private static void gapsGrown() {
        BeltRows x = Rows.withBelts(1000, 200);
        x.gaps(0);
        x.item(0, 200);
        x.step(1);
        x.item(0, 10);
        x.gaps(50);
        x.run(0, 20, true);
        x.step(1);
        CHECK.is("too near, it does not go back", x.told(2, 2), 0);
        x.step(1);
        CHECK.is("still too near", x.told(2, 2), 0);
        x.step(1);
        CHECK.is("it goes on up to the gap", x.told(2, 2), 10);
    }

    // Promise 6
    private static void scanner() {
        BeltRows x = Rows.withBelts(1000, 100, 5, 1);
        CHECK.fails("scanner(-1, 1, 1)", MISSING, () -> x.scanner(-1, 1, 1));
        CHECK.fails("scanner(2, 0, 0)", MISSING, () -> x.scanner(2, 0, 0));
        CHECK.fails("scanner(0, 0, 1)", ARGUMENT, () -> x.scanner(0, 0, 1));
        CHECK.fails("scanner(0, 1001, 1)", ARGUMENT, () -> x.scanner(0, 1001, 1));
        CHECK.fails("scanner(1, 6, 1)", ARGUMENT, () -> x.scanner(1, 6, 1));
        CHECK.fails("scanner(0, 1, 0)", ARGUMENT, () -> x.scanner(0, 1, 0));
        CHECK.fails("scanner(0, 1, 21)", ARGUMENT, () -> x.scanner(0, 1, 21));
        CHECK.is("no scanner was made", x.count(6), 0);
        CHECK.is("scanner(0, 1000, 20)", x.scanner(0, 1000, 20), 0);
        CHECK.is("scanner(0, 1, 1)", x.scanner(0, 1, 1), 1);
        CHECK.is("scanner(1, 5, 1)", x.scanner(1, 5, 1), 2);
        CHECK.is("scanner(1, 5, 1) again", x.scanner(1, 5, 1), 3);
        CHECK.fails("a fifth scanner", FULL, () -> x.scanner(0, 1, 1));
        CHECK.fails("a fifth scanner nowhere", ARGUMENT, () -> x.scanner(0, 0, 1));
        CHECK.fails("a fifth scanner too late", ARGUMENT, () -> x.scanner(0, 1, 21));
        CHECK.fails("a fifth scanner on no belt", MISSING, () -> x.scanner(2, 1, 1));
    }

    private static void scannerReads() {
        BeltRows x = Rows.withBelts(1000, 100);
        x.scanner(0, 100, 3);
        x.scanner(0, 101, 2);
        x.scanner(0, 200, 1);
        x.gaps(0);
        x.item(0, 10);
        x.step(1);
        CHECK.is("scanner 0 is just reached", x.count(7), 1);
        x.item(0, 10);
        x.item(0, 10);
        x.step(1);
        CHECK.is("scanner 0 once more, 1 and 2", x.count(7), 4);
        x.take(1);
        CHECK.is("read though it was taken", x.step(1), 1);
        CHECK.edgeIs(x, 0, 3, 0, 1, 2);
        CHECK.is("passed in second 1, then in second 2", x.step(1), 3);
        CHECK.edgeIs(x, 1, 4, 0, 1, 0);
        CHECK.edgeIs(x, 2, 4, 0, 1, 1);
        CHECK.edgeIs(x, 3, 4, 0, 2, 2);
    }

    private static void scannersOfOneSecond() {
        BeltRows x = Rows.withBelts(100, 50, 100, 50);
        x.gaps(0);
        x.scanner(1, 10, 1);
        x.scanner(0, 20, 1);
        x.scanner(0, 10, 1);
        x.item(0, 1);
        x.step(1);
        x.item(0, 1);
        x.item(1, 1);
        x.step(1);
        CHECK.is("two reads of item 1", x.count(4), 2);
        CHECK.edgeIs(x, 0, 2, 0, 1, 1);
        CHECK.edgeIs(x, 1, 2, 0, 1, 2);
        CHECK.is("out after what is read, belts upward", x.step(1), 4);
        CHECK.edgeIs(x, 2, 3, 0, 2, 1);
        CHECK.edgeIs(x, 3, 3, 0, 2, 2);
        CHECK.edgeIs(x, 4, 3, 0, 3, 0);
        CHECK.edgeIs(x, 5, 3, 1, 1, 0);
    }

    private static void readsThatWaitLonger() {
        BeltRows x = Rows.withBelts(1000, 100);
        x.scanner(0, 10, 1);
        x.scanner(0, 20, 4);
        x.scanner(0, 30, 2);
        x.scanner(0, 40, 3);
        x.item(0, 1);
        CHECK.is("nothing yet", x.step(1), 0);
        for (int left = 4; left > 0; left--) {
            CHECK.is("reads to come", x.count(7), left);
            CHECK.is("one a second", x.step(1), 1);
        }
        CHECK.edgeIs(x, 0, 2, 0, 1, 0);
        CHECK.edgeIs(x, 1, 3, 0, 1, 2);
        CHECK.edgeIs(x, 2, 4, 0, 1, 3);
        CHECK.edgeIs(x, 3, 5, 0, 1, 1);
    }

    private static void readAfterOut() {
        BeltRows x = Rows.withBelts(100, 100);
        x.scanner(0, 100, 20);
        x.item(0, 1);
        CHECK.is("it is out in second 2", x.step(2), 1);
        CHECK.is("not read yet", x.step(18), 0);
        CHECK.is("read in second 21", x.step(1), 1);
        CHECK.edgeIs(x, 1, 21, 0, 1, 0);
        CHECK.is("none is left", x.count(7), 0);
    }

    // Promise 7
    private static void item() {
        BeltRows x = Rows.withBelts(1000, 100, 10, 0);
        CHECK.fails("item(-1, 1)", MISSING, () -> x.item(-1, 1));
        CHECK.fails("item(2, 0)", MISSING, () -> x.item(2, 0));
        CHECK.fails("item(0, 0)", ARGUMENT, () -> x.item(0, 0));
        CHECK.fails("item(0, 2001)", ARGUMENT, () -> x.item(0, 2001));
        CHECK.is("no item was put", x.count(1), 0);
        CHECK.is("item(0, 1)", x.item(0, 1), 1);
        CHECK.is("101 are missing", x.item(0, 2000), -101);
        CHECK.is("none is put", x.count(1), 1);
        CHECK.is("longer than its belt", x.item(1, 2000), 2);
        CHECK.is("its rear is far before the start", x.item(1, 1), -2100);
        x.step(1);
        CHECK.is("1 is missing", x.item(0, 1), -1);
        x.step(1);
        CHECK.is("room", x.item(0, 1), 3);
        x.run(1, 0, false);
        x.take(2);
        CHECK.is("onto an empty stopped belt", x.item(1, 7), 4);
        CHECK.is("at its start", x.told(4, 2), 0);
        CHECK.is("on that belt", x.told(4, 1), 1);
    }

    private static void itemsFull() {
        BeltRows x = Rows.withBelts(1000, 100);
        for (int i = 1; i <= 60; i++) {
            CHECK.is("item " + i, x.item(0, 5), i);
            if (i < 60) {
                x.take(i);
            }
        }
        CHECK.fails("no room for item 61, even where less would be answered", FULL, () -> x.item(0, 5));
        x.take(60);
        CHECK.fails("taken ones count too", FULL, () -> x.item(0, 5));
        CHECK.fails("no length comes first", ARGUMENT, () -> x.item(0, 0));
        CHECK.fails("no belt comes first", MISSING, () -> x.item(1, 5));
        CHECK.is("60 items", x.count(1), 60);
    }

    // Promise 8
    private static void divert() {
        BeltRows x = Rows.withBelts(100, 100, 100, 100, 100, 100);
        x.join(0, 0, 1, 1);
        x.join(0, 1, 2, 1);
        x.item(0, 1);
        CHECK.fails("divert(0, 0)", MISSING, () -> x.divert(0, 0));
        CHECK.fails("divert(2, 2)", MISSING, () -> x.divert(2, 2));
        CHECK.fails("divert(1, -1)", ARGUMENT, () -> x.divert(1, -1));
        CHECK.fails("divert(1, 2)", ARGUMENT, () -> x.divert(1, 2));
        CHECK.is("told way 0, the first time", x.divert(1, 0), 1);
        CHECK.is("told again", x.divert(1, 1), 2);
        CHECK.is("it counts", x.told(1, 4), 1);
        x.step(2);
        CHECK.is("it went by way 1", x.told(1, 1), 2);
        CHECK.is("known(0, 8)", x.known(0, 8), 1);
        CHECK.is("known(0, 7)", x.known(0, 7), 0);
        CHECK.is("its way is forgotten", x.told(1, 4), 0);
        CHECK.is("told the first time here", x.divert(1, 1), 1);
        x.step(1);
        CHECK.is("it is out: there is no way at all", x.told(1, 0), 1);
        CHECK.is("its way is forgotten", x.told(1, 4), 0);
        CHECK.fails("divert an item that is out", STATE, () -> x.divert(1, 1));
        CHECK.fails("no such way comes first", ARGUMENT, () -> x.divert(1, 2));
        x.item(0, 1);
        x.divert(2, 1);
        x.take(2);
        CHECK.is("forgotten when taken", x.told(2, 4), 0);
        CHECK.fails("divert a taken item", STATE, () -> x.divert(2, 0));
    }

    private static void waysThatAreNot() {
        BeltRows x = Rows.withBelts(100, 100, 100, 100);
        x.join(0, 1, 1, 1);
        x.item(0, 1);
        x.step(2);
        CHECK.is("no way 0: out, though there is a way 1", x.told(1, 0), 1);
        BeltRows y = Rows.withBelts(100, 100, 100, 100);
        y.join(0, 0, 1, 1);
        y.item(0, 1);
        y.divert(1, 1);
        y.step(2);
        CHECK.is("no way 1: by way 0", y.told(1, 1), 1);
        CHECK.is("counted there", y.known(0, 7), 1);
        CHECK.is("not here", y.known(0, 8), 0);
    }

    // Promise 9
    private static void step() {
        BeltRows x = Rows.withBelts(100, 1000, 100, 1000, 100, 1000);
        x.join(0, 0, 1, 1);
        x.join(1, 0, 2, 1);
        CHECK.fails("step(-1)", ARGUMENT, () -> x.step(-1));
        CHECK.fails("step(101)", ARGUMENT, () -> x.step(101));
        CHECK.is("step(0)", x.step(0), 0);
        CHECK.is("no time went by", x.count(5), 0);
        x.item(0, 100);
        x.item(1, 100);
        x.item(2, 100);
        CHECK.is("all go to their ends", x.step(1), 0);
        CHECK.is("one out, two passed on", x.step(1), 3);
        CHECK.edgeIs(x, 0, 2, 1, 3, 2);
        CHECK.edgeIs(x, 1, 2, 2, 2, 2);
        CHECK.edgeIs(x, 2, 2, 2, 1, 1);
        CHECK.is("moved in the second in which it came", x.told(1, 2), 100);
        CHECK.is("this one too", x.told(2, 2), 100);
        CHECK.is("step(98)", x.step(98), 3);
        CHECK.is("step(100)", x.step(100), 0);
        CHECK.is("time", x.count(5), 200);
    }

    private static void moves() {
        BeltRows x = Rows.withBelts(1000, 130, 50, 0);
        x.join(0, 0, 1, 1);
        x.run(1, 0, false);
        x.item(0, 20);
        x.step(1);
        x.item(0, 30);
        CHECK.is("the rear is above the gap by 10", x.gap(1, 2), 110);
        x.run(0, 200, true);
        x.step(1);
        CHECK.is("the front one first", x.told(1, 2), 330);
        CHECK.is("then the one behind, by the speed", x.told(2, 2), 200);
        x.step(4);
        CHECK.is("not behind the end", x.told(1, 2), 1000);
        CHECK.is("not nearer than the gap", x.told(2, 2), 880);
        CHECK.is("known: the item in front", x.known(0, 4), 1);
    }

    private static void roomForPassing() {
        BeltRows x = Rows.withBelts(100, 100, 1000, 50);
        x.join(0, 0, 1, 1);
        x.item(0, 1);
        x.step(1);
        x.item(1, 1);
        CHECK.is("no room: the gap is 100", x.step(3), 0);
        CHECK.is("item 2 is at 150", x.told(2, 2), 150);
        CHECK.is("now there is room", x.step(1), 1);
        CHECK.is("it went on by the speed in this second", x.told(1, 2), 50);
        x.item(0, 1);
        x.step(1);
        CHECK.is("rear 99 is too little", x.told(1, 2) - 1, 99);
        CHECK.is("so it waits", x.step(1), 0);
        CHECK.is("and comes then", x.step(1), 1);
    }

    private static BeltRows merge(int shareOfZero, int shareOfOne) {
        BeltRows x = Rows.withBelts(10, 1000, 10, 1000, 1000, 1000);
        x.gaps(0);
        x.join(0, 0, 2, shareOfZero);
        x.join(1, 0, 2, shareOfOne);
        x.run(2, 0, false);
        for (int i = 0; i < 6; i++) {
            x.item(0, 1);
            x.item(1, 1);
            x.step(1);
        }
        x.run(2, 1000, true);
        return x;
    }

    // Items of belt 0 have odd numbers, those of belt 1 even ones.
    private static void mergeGoes(BeltRows x, int... belts) {
        for (int i = 0; i < belts.length; i++) {
            x.step(1);
            int item = x.known(2, 3) == 0 ? 0 : lastPassed(x);
            CHECK.is("merge " + i, item % 2 == 1 ? 0 : 1, belts[i]);
        }
    }

    private static int lastPassed(BeltRows x) {
        int i = x.count(4) - 1;
        return x.edge(i, 1) == 2 ? x.edge(i, 2) : 0;
    }

    private static void merges() {
        mergeGoes(merge(1, 1), 0, 1, 0, 1, 0, 1);
        mergeGoes(merge(1, 2), 0, 1, 1, 0, 1, 1, 0);
        mergeGoes(merge(3, 2), 0, 1, 0, 1, 0, 0, 1);
        mergeGoes(merge(9, 8), 0, 1, 0, 1, 0, 1, 0, 1, 0, 1);
        mergeGoes(merge(2, 9), 0, 1, 1, 1, 1, 1, 0);
        BeltRows x = merge(1, 1);
        x.run(0, 1000, false);
        mergeGoes(x, 1, 1, 1);
        x.run(0, 1000, true);
        mergeGoes(x, 0, 0, 0, 0, 1);
        BeltRows y = merge(1, 1);
        mergeGoes(y, 0, 1, 0);
        y.join(0, 0, 2, 1);
        mergeGoes(y, 0, 0, 1);
    }

    // Promise 10
    private static void edge() {
        BeltRows x = Rows.withBelts(100, 50, 200, 200);
        x.join(0, 0, 1, 1);
        x.scanner(0, 1, 1);
        x.scanner(1, 200, 1);
        x.item(0, 1);
        CHECK.is("read, passed on, read, out", x.step(10), 4);
        CHECK.edgeIs(x, 0, 2, 0, 1, 0);
        CHECK.edgeIs(x, 1, 3, 2, 1, 1);
        CHECK.edgeIs(x, 2, 4, 0, 1, 1);
        CHECK.edgeIs(x, 3, 4, 1, 1, 1);
        CHECK.fails("edge(-1, 0)", MISSING, () -> x.edge(-1, 0));
        CHECK.fails("edge(4, 4)", MISSING, () -> x.edge(4, 4));
        CHECK.fails("edge(3, 4)", ARGUMENT, () -> x.edge(3, 4));
        CHECK.fails("edge(3, -1)", ARGUMENT, () -> x.edge(3, -1));
    }

    // Promise 11
    private static void slip() {
        BeltRows x = Rows.withBelts(1000, 500);
        x.item(0, 50);
        x.step(1);
        x.item(0, 10);
        x.run(0, 300, true);
        x.step(1);
        CHECK.is("item 1 is at 800", x.told(1, 2), 800);
        CHECK.is("item 2 is at 300", x.told(2, 2), 300);
        CHECK.fails("slip(0, 1)", MISSING, () -> x.slip(0, 1));
        CHECK.fails("slip(3, 0)", MISSING, () -> x.slip(3, 0));
        CHECK.fails("slip(1, 0)", ARGUMENT, () -> x.slip(1, 0));
        CHECK.fails("slip(1, -1)", ARGUMENT, () -> x.slip(1, -1));
        CHECK.fails("slip(1, 1001)", ARGUMENT, () -> x.slip(1, 1001));
        CHECK.fails("slip(1, 1000)", STATE, () -> x.slip(1, 1000));
        CHECK.fails("slip(2, 301)", STATE, () -> x.slip(2, 301));
        CHECK.fails("slip(1, 351)", STATE, () -> x.slip(1, 351));
        CHECK.is("slip(1, 350)", x.slip(1, 350), 450);
        CHECK.is("just the gap", x.gap(1, 2), 100);
        CHECK.is("slip(2, 299)", x.slip(2, 299), 1);
        CHECK.is("slip(2, 1)", x.slip(2, 1), 0);
        CHECK.fails("slip(2, 1) again", STATE, () -> x.slip(2, 1));
        CHECK.is("what was expected stays", x.told(1, 5), 800);
        CHECK.is("of the other one too", x.told(2, 5), 300);
        x.take(2);
        CHECK.fails("slip a taken item", STATE, () -> x.slip(2, 1));
        CHECK.fails("no such slip comes first", ARGUMENT, () -> x.slip(2, 0));
        CHECK.is("nothing behind it now", x.slip(1, 450), 0);
        x.step(2);
        x.take(1);
        CHECK.fails("slip an item that was far on when taken", STATE, () -> x.slip(1, 1));
    }

    private static void slipReadAgain() {
        BeltRows x = Rows.withBelts(1000, 100);
        x.scanner(0, 100, 1);
        x.item(0, 1);
        x.step(1);
        CHECK.is("passed once", x.count(7), 1);
        x.slip(1, 1);
        CHECK.is("it is told", x.step(1), 1);
        CHECK.is("passed twice", x.count(7), 1);
        CHECK.is("told again", x.step(1), 1);
        CHECK.is("not passed again", x.count(7), 0);
    }

    // Promise 12
    private static void take() {
        BeltRows x = Rows.withBelts(1000, 100, 1000, 100);
        x.gaps(0);
        for (int i = 1; i <= 3; i++) {
            x.item(0, 50);
            x.step(1);
        }
        CHECK.fails("take(0)", MISSING, () -> x.take(0));
        CHECK.fails("take(4)", MISSING, () -> x.take(4));
        x.take(2);
        CHECK.is("taken", x.told(2, 0), 2);
        CHECK.is("its last belt", x.told(2, 1), 0);
        CHECK.is("no place", x.told(2, 2), -1);
        CHECK.is("none expected", x.told(2, 5), -1);
        CHECK.is("two are left", x.known(0, 3), 2);
        CHECK.is("they are neighbours now", x.gap(3, 1), 150);
        CHECK.fails("take(2) again", STATE, () -> x.take(2));
        x.take(1);
        CHECK.is("another one is in front", x.known(0, 4), 3);
        x.take(3);
        CHECK.is("none is in front", x.known(0, 4), -1);
        CHECK.is("none went out", x.count(3), 0);
        CHECK.is("room again", x.item(0, 1), 4);
        CHECK.is("no edge of it", x.count(4), 0);
        CHECK.is("it goes out", x.step(11), 1);
        CHECK.fails("take an item that is out", STATE, () -> x.take(4));
    }

    // Promise 13
    private static void clean() {
        BeltRows x = Rows.withBelts(1000, 100, 1000, 100);
        x.gaps(0);
        for (int i = 1; i <= 3; i++) {
            x.item(0, 50);
            x.step(1);
        }
        x.item(1, 1);
        CHECK.fails("clean(-1)", MISSING, () -> x.clean(-1));
        CHECK.fails("clean(2)", MISSING, () -> x.clean(2));
        CHECK.fails("clean(0): it runs", STATE, () -> x.clean(0));
        CHECK.is("nothing was taken", x.count(2), 4);
        x.run(0, 100, false);
        CHECK.is("clean(0)", x.clean(0), 3);
        for (int i = 1; i <= 3; i++) {
            CHECK.is("taken " + i, x.told(i, 0), 2);
        }
        CHECK.is("the other belt keeps its own", x.told(4, 0), 0);
        CHECK.is("it is empty", x.known(0, 3), 0);
        CHECK.is("none is in front", x.known(0, 4), -1);
        CHECK.is("clean(0) again", x.clean(0), 0);
        CHECK.is("one is on belts", x.count(2), 1);
        CHECK.is("room on it", x.item(0, 3), 5);
        CHECK.is("no edges", x.count(4), 0);
    }

    // Promise 14
    private static void gap() {
        BeltRows x = Rows.withBelts(1000, 100, 1000, 100);
        x.gaps(0);
        x.item(0, 100);
        x.step(1);
        x.item(0, 30);
        x.item(1, 30);
        CHECK.fails("gap(0, 1)", MISSING, () -> x.gap(0, 1));
        CHECK.fails("gap(1, 4)", MISSING, () -> x.gap(1, 4));
        CHECK.fails("gap(4, 4)", MISSING, () -> x.gap(4, 4));
        CHECK.is("gap(1, 2)", x.gap(1, 2), 0);
        CHECK.is("gap(2, 1)", x.gap(2, 1), 0);
        x.step(1);
        x.slip(2, 60);
        CHECK.is("gap(1, 2) after a slip", x.gap(1, 2), 60);
        CHECK.is("gap(2, 1) after a slip", x.gap(2, 1), 60);
        CHECK.fails("gap(1, 3): two belts", STATE, () -> x.gap(1, 3));
        CHECK.fails("gap(1, 1): the same", STATE, () -> x.gap(1, 1));
        x.take(1);
        CHECK.fails("gap(1, 2): one is taken", STATE, () -> x.gap(1, 2));
        CHECK.fails("gap(2, 1): one is taken", STATE, () -> x.gap(2, 1));
        x.take(2);
        CHECK.fails("gap(1, 2): both are taken", STATE, () -> x.gap(1, 2));
    }

    // Promise 15
    private static void told() {
        BeltRows x = Rows.withBelts(1000, 300, 500, 70);
        x.join(0, 0, 1, 1);
        x.step(5);
        x.item(0, 40);
        CHECK.toldIs(x, 1, 0, 0, 0, 40, 0, 0, 5);
        x.divert(1, 1);
        x.step(2);
        x.run(0, 100, true);
        x.step(1);
        CHECK.toldIs(x, 1, 0, 0, 700, 40, 1, 700, 5);
        x.slip(1, 200);
        x.run(0, 900, false);
        x.step(1);
        CHECK.toldIs(x, 1, 0, 0, 500, 40, 1, 700, 5);
        x.run(0, 400, true);
        x.step(1);
        CHECK.toldIs(x, 1, 0, 0, 900, 40, 1, 1000, 5);
        x.step(1);
        x.step(1);
        CHECK.toldIs(x, 1, 0, 1, 70, 40, 0, 70, 5);
        x.step(8);
        CHECK.toldIs(x, 1, 1, 1, -1, 40, 0, -1, 5);
        CHECK.fails("told(0, 0)", MISSING, () -> x.told(0, 0));
        CHECK.fails("told(2, 7)", MISSING, () -> x.told(2, 7));
        CHECK.fails("told(1, -1)", ARGUMENT, () -> x.told(1, -1));
        CHECK.fails("told(1, 7)", ARGUMENT, () -> x.told(1, 7));
    }

    private static void expectedOfWaiting() {
        BeltRows x = Rows.withBelts(1000, 300, 500, 0);
        x.join(0, 0, 1, 1);
        x.run(1, 0, false);
        x.item(0, 600);
        x.step(3);
        x.item(0, 1);
        x.step(2);
        CHECK.is("it waits behind the first", x.told(2, 2), 300);
        CHECK.is("expected further on", x.told(2, 5), 600);
        x.step(2);
        CHECK.is("expected at the end at most", x.told(2, 5), 1000);
    }

    // Promise 16
    private static void known() {
        BeltRows x = Rows.withBelts(400, 200, 300, 100, 200, 50);
        CHECK.knownIs(x, 0, 400, 200, 1, 0, -1, -1, -1, 0, 0);
        x.join(0, 0, 1, 1);
        x.join(0, 1, 2, 1);
        x.gaps(0);
        x.item(0, 10);
        x.step(1);
        x.item(0, 10);
        x.divert(2, 1);
        CHECK.knownIs(x, 0, 400, 200, 1, 2, 1, 1, 2, 0, 0);
        x.step(1);
        x.run(0, 300, true);
        x.step(1);
        CHECK.knownIs(x, 0, 400, 300, 1, 1, 2, 1, 2, 1, 0);
        CHECK.knownIs(x, 1, 300, 100, 1, 1, 1, -1, -1, 0, 0);
        x.step(1);
        x.run(0, 0, false);
        CHECK.knownIs(x, 0, 400, 0, 0, 0, -1, 1, 2, 1, 1);
        CHECK.fails("known(-1, 0)", MISSING, () -> x.known(-1, 0));
        CHECK.fails("known(3, 9)", MISSING, () -> x.known(3, 9));
        CHECK.fails("known(0, -1)", ARGUMENT, () -> x.known(0, -1));
        CHECK.fails("known(0, 9)", ARGUMENT, () -> x.known(0, 9));
    }

    // Promise 17
    private static void order() {
        BeltRows x = Rows.withBelts(100, 10, 100, 100, 100, 50);
        x.item(0, 1);
        x.item(1, 1);
        x.item(2, 1);
        CHECK.fails("order(0): none yet", MISSING, () -> x.order(0));
        x.step(50);
        CHECK.is("order(0)", x.order(0), 2);
        CHECK.is("order(1)", x.order(1), 3);
        CHECK.is("order(2)", x.order(2), 1);
        CHECK.fails("order(3)", MISSING, () -> x.order(3));
        CHECK.fails("order(-1)", MISSING, () -> x.order(-1));
        BeltRows y = Rows.withBelts(100, 100, 100, 100);
        y.item(0, 1);
        y.item(1, 1);
        y.step(2);
        CHECK.is("belts downward in one second", y.order(0), 2);
        CHECK.is("the lower one then", y.order(1), 1);
    }

    // Promise 18
    private static void mean() {
        BeltRows x = Rows.withBelts(100, 100, 100, 50);
        CHECK.fails("mean(): none yet", ARITHMETIC, () -> x.mean());
        x.item(0, 1);
        x.take(1);
        x.step(7);
        CHECK.fails("mean(): one was taken", ARITHMETIC, () -> x.mean());
        x.item(0, 1);
        x.step(2);
        CHECK.is("2 seconds", x.mean(), 2);
        x.item(1, 1);
        x.step(5);
        CHECK.is("2 and 3 seconds, rest dropped", x.mean(), 2);
        x.item(1, 1);
        x.item(0, 1);
        x.run(0, 100, false);
        x.step(10);
        CHECK.is("2, 3 and 3", x.mean(), 2);
        x.run(0, 100, true);
        x.step(2);
        CHECK.is("2, 3, 3 and 12", x.mean(), 5);
    }

    // Promise 19
    private static void count() {
        BeltRows x = Rows.withBelts(1000, 100, 100, 100);
        x.scanner(0, 100, 20);
        x.scanner(0, 100, 2);
        x.scanner(1, 1, 20);
        x.gaps(0);
        x.item(0, 1);
        x.item(1, 1);
        x.step(1);
        x.item(0, 1);
        x.item(0, 1);
        x.item(1, 1);
        x.take(3);
        x.step(2);
        CHECK.countIs(x, 2, 4, 1, 2, 3, 3, 3, 3);
        CHECK.is("count(-1)", x.count(-1), -1);
        CHECK.is("count(8)", x.count(8), -1);
        CHECK.is("count of the greatest", x.count(Integer.MAX_VALUE), -1);
        CHECK.is("count of the least", x.count(Integer.MIN_VALUE), -1);
    }
}
