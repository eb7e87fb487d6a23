import java.util.ArrayList;
import java.util.NoSuchElementException;

public final class BeltRows {
    private static final int MOST_BELTS = 8;
    private static final int MOST_ITEMS = 60;
    private static final int MOST_SCANNERS = 4;
    private static final int MOST_BELT_LENGTH = 10000;
    private static final int MOST_ITEM_LENGTH = 2000;
    private static final int MOST_SPEED = 1000;
    private static final int MOST_SHARE = 9;
    private static final int MOST_DELAY = 20;
    private static final int MOST_GAP = 1000;
    private static final int MOST_SLIP = 1000;
    private static final int MOST_SECONDS = 100;
    private static final int FIRST_GAP = 100;

    // Of 512 calls each can bring at most four reads (by a new item or by a slip), and each of
    // 60 items leaves at most 8 belts: no promised run comes near this many.
    private static final int MOST_EDGES = 4096;

    private static final int NONE = -1;

    private static final int ON_BELT = 0;
    private static final int GONE_OUT = 1;
    private static final int TAKEN = 2;

    private static final int READ = 0;
    private static final int OUT = 1;
    private static final int PASSED_ON = 2;

    private final ArrayList<Belt> belts;
    private final ArrayList<Item> items;
    private final ArrayList<Scanner> scanners;
    private final ArrayList<Edge> edges;
    // Reads to come, in the order in which items passed scanners: those of one second are told in it.
    private final ArrayList<Edge> waiting;
    private final ArrayList<Item> gone;
    private int leastGap;
    private int time;
    private int secondsOfGone;

    public BeltRows() {
        belts = new ArrayList<>();
        items = new ArrayList<>();
        scanners = new ArrayList<>();
        edges = new ArrayList<>();
        waiting = new ArrayList<>();
        gone = new ArrayList<>();
        leastGap = FIRST_GAP;
        time = 0;
        secondsOfGone = 0;
    }

    public int belt(int length, int speed) throws IllegalArgumentException, UnsupportedOperationException {
        checkRange(length, 1, MOST_BELT_LENGTH);
        checkRange(speed, 0, MOST_SPEED);
        int number = belts.size();
        if (number >= MOST_BELTS) {
            throw new UnsupportedOperationException("no room for another belt");
        }
        belts.add(new Belt(number, length, speed));
        return number;
    }

    public int join(int belt, int way, int to, int share) throws NoSuchElementException, IllegalArgumentException {
        Belt from = findBelt(belt);
        Belt target = findBelt(to);
        checkRange(way, 0, 1);
        checkRange(share, 1, MOST_SHARE);
        if (to <= belt) {
            throw new IllegalArgumentException("the next belt did not come later");
        }
        from.wayNumbered(way).leadTo(target, share);
        return waysTo(target);
    }

    public void run(int belt, int speed, boolean on) throws NoSuchElementException, IllegalArgumentException {
        Belt found = findBelt(belt);
        checkRange(speed, 0, MOST_SPEED);
        found.speed = speed;
        found.runs = on;
    }

    public void gaps(int gap) throws IllegalArgumentException {
        checkRange(gap, 0, MOST_GAP);
        leastGap = gap;
    }

    public int scanner(int belt, int place, int delay)
            throws NoSuchElementException, IllegalArgumentException, UnsupportedOperationException {
        Belt found = findBelt(belt);
        checkRange(place, 1, found.length);
        checkRange(delay, 1, MOST_DELAY);
        int number = scanners.size();
        if (number >= MOST_SCANNERS) {
            throw new UnsupportedOperationException("no room for another scanner");
        }
        scanners.add(new Scanner(number, found, place, delay));
        return number;
    }

    public int item(int belt, int length)
            throws NoSuchElementException, IllegalArgumentException, UnsupportedOperationException {
        Belt found = findBelt(belt);
        checkRange(length, 1, MOST_ITEM_LENGTH);
        if (items.size() >= MOST_ITEMS) {
            throw new UnsupportedOperationException("no room for another item");
        }
        int missing = missingToRoom(found);
        if (missing > 0) {
            return -missing;
        }
        Item put = new Item(items.size() + 1, length, time);
        items.add(put);
        found.takeOn(put);
        return put.number;
    }

    public int divert(int item, int way)
            throws NoSuchElementException, IllegalArgumentException, IllegalStateException {
        Item found = findItem(item);
        checkRange(way, 0, 1);
        checkOnBelt(found);
        int answer = found.wasTold ? 2 : 1;
        found.way = way;
        found.wasTold = true;
        return answer;
    }

    public int step(int seconds) throws IllegalArgumentException {
        checkRange(seconds, 0, MOST_SECONDS);
        int before = edges.size();
        for (int i = 0; i < seconds; i++) {
            passSecond();
        }
        return edges.size() - before;
    }

    public int edge(int i, int what) throws NoSuchElementException, IllegalArgumentException {
        if (i < 0 || i >= edges.size()) {
            throw new NoSuchElementException("no such edge");
        }
        Edge found = edges.get(i);
        switch (what) {
            case 0:
                return found.second;
            case 1:
                return found.kind;
            case 2:
                return found.item;
            case 3:
                return found.where;
            default:
                throw new IllegalArgumentException("nothing of an edge has this number");
        }
    }

    public int slip(int item, int by)
            throws NoSuchElementException, IllegalArgumentException, IllegalStateException {
        Item found = findItem(item);
        checkRange(by, 1, MOST_SLIP);
        checkOnBelt(found);
        if (found.place < by) {
            throw new IllegalStateException("the item would be before the start");
        }
        Item behind = found.behind;
        if (behind != null && found.rear() - by - behind.place < leastGap) {
            throw new IllegalStateException("the item behind would be too near");
        }
        found.place -= by;
        return found.place;
    }

    public void take(int item) throws NoSuchElementException, IllegalStateException {
        Item found = findItem(item);
        checkOnBelt(found);
        found.leave(TAKEN);
    }

    public int clean(int belt) throws NoSuchElementException, IllegalStateException {
        Belt found = findBelt(belt);
        if (found.runs) {
            throw new IllegalStateException("the belt runs");
        }
        int before = found.size;
        for (int i = 0; i < before && found.front != null; i++) {
            found.front.leave(TAKEN);
        }
        return before;
    }

    public int gap(int item, int other) throws NoSuchElementException, IllegalStateException {
        Item one = findItem(item);
        Item two = findItem(other);
        checkOnBelt(one);
        checkOnBelt(two);
        if (one.belt != two.belt || one == two) {
            throw new IllegalStateException("these are not two items of one belt");
        }
        // No two items of a belt share a place: each is at most at the rear of the one in front.
        return one.place > two.place ? one.rear() - two.place : two.rear() - one.place;
    }

    public int told(int item, int what) throws NoSuchElementException, IllegalArgumentException {
        Item found = findItem(item);
        boolean onBelt = found.state == ON_BELT;
        switch (what) {
            case 0:
                return found.state;
            case 1:
                return found.belt == null ? NONE : found.belt.number;
            case 2:
                return onBelt ? found.place : NONE;
            case 3:
                return found.length;
            case 4:
                return found.way;
            case 5:
                return onBelt ? found.expected : NONE;
            case 6:
                return found.putAt;
            default:
                throw new IllegalArgumentException("nothing of an item has this number");
        }
    }

    public int known(int belt, int what) throws NoSuchElementException, IllegalArgumentException {
        Belt found = findBelt(belt);
        switch (what) {
            case 0:
                return found.length;
            case 1:
                return found.speed;
            case 2:
                return found.runs ? 1 : 0;
            case 3:
                return found.size;
            case 4:
                return found.front == null ? NONE : found.front.number;
            case 5:
                return found.wayNumbered(0).nextNumber();
            case 6:
                return found.wayNumbered(1).nextNumber();
            case 7:
                return found.wayNumbered(0).went;
            case 8:
                return found.wayNumbered(1).went;
            default:
                throw new IllegalArgumentException("nothing of a belt has this number");
        }
    }

    public int order(int i) throws NoSuchElementException {
        if (i < 0 || i >= gone.size()) {
            throw new NoSuchElementException("not so many items went out");
        }
        return gone.get(i).number;
    }

    public int mean() throws ArithmeticException {
        int many = gone.size();
        if (many == 0) {
            throw new ArithmeticException("/ by zero");
        }
        return secondsOfGone / many;
    }

    public int count(int what) {
        switch (what) {
            case 0:
                return belts.size();
            case 1:
                return items.size();
            case 2:
                return itemsOnBelts();
            case 3:
                return gone.size();
            case 4:
                return edges.size();
            case 5:
                return time;
            case 6:
                return scanners.size();
            case 7:
                return waiting.size();
            default:
                return NONE;
        }
    }

    private static void checkRange(int number, int least, int most) {
        if (number < least || number > most) {
            throw new IllegalArgumentException("a number is outside its range");
        }
    }

    private static void checkOnBelt(Item item) {
        if (item.state != ON_BELT) {
            throw new IllegalStateException("the item is on no belt");
        }
    }

    private Belt findBelt(int number) {
        if (number < 0 || number >= belts.size()) {
            throw new NoSuchElementException("no such belt");
        }
        return belts.get(number);
    }

    private Item findItem(int number) {
        if (number < 1 || number > items.size()) {
            throw new NoSuchElementException("no such item");
        }
        return items.get(number - 1);
    }

    private int waysTo(Belt target) {
        int many = 0;
        for (int i = 0; i < belts.size(); i++) {
            Belt belt = belts.get(i);
            many += belt.wayNumbered(0).next == target ? 1 : 0;
            many += belt.wayNumbered(1).next == target ? 1 : 0;
        }
        return many;
    }

    private int itemsOnBelts() {
        int many = 0;
        for (int i = 0; i < belts.size(); i++) {
            many += belts.get(i).size;
        }
        return many;
    }

    private int missingToRoom(Belt belt) {
        return belt.last == null ? 0 : Math.max(0, leastGap - belt.last.rear());
    }

    private void passSecond() {
        time++;
        tellReads();
        for (int i = belts.size() - 1; i >= 0; i--) {
            Belt belt = belts.get(i);
            if (belt.runs) {
                letOut(belt);
                passOnTo(belt);
            }
        }
        for (int i = 0; i < belts.size(); i++) {
            Belt belt = belts.get(i);
            if (belt.runs) {
                moveItems(belt);
            }
        }
    }

    private void tellReads() {
        int many = waiting.size();
        int kept = 0;
        for (int i = 0; i < many; i++) {
            Edge read = waiting.get(i);
            if (read.second == time) {
                tell(read);
            } else {
                waiting.set(kept, read);
                kept++;
            }
        }
        for (int i = many - 1; i >= kept; i--) {
            waiting.remove(i);
        }
    }

    private void tell(Edge edge) {
        if (edges.size() < MOST_EDGES) {
            edges.add(edge);
        }
    }

    private void letOut(Belt belt) {
        Item item = belt.itemAtEnd();
        if (item == null || belt.wayOf(item) != null) {
            return;
        }
        item.leave(GONE_OUT);
        gone.add(item);
        secondsOfGone += time - item.putAt;
        tell(new Edge(time, OUT, item.number, belt.number));
    }

    private void passOnTo(Belt belt) {
        if (missingToRoom(belt) > 0) {
            return;
        }
        Belt giver = giverTo(belt);
        if (giver == null) {
            return;
        }
        Item item = giver.itemAtEnd();
        Way way = giver.wayInUse();
        if (item == null || way == null) {
            return;
        }
        way.went++;
        giver.letGo(item);
        belt.takeOn(item);
        tell(new Edge(time, PASSED_ON, item.number, belt.number));
    }

    private Belt giverTo(Belt belt) {
        Belt best = null;
        Way bestWay = null;
        for (int i = 0; i < belt.number && i < belts.size(); i++) {
            Belt giver = belts.get(i);
            Way way = giver.wayInUse();
            if (way != null && way.next == belt && (bestWay == null || way.isDueBefore(bestWay))) {
                best = giver;
                bestWay = way;
            }
        }
        return best;
    }

    private void moveItems(Belt belt) {
        for (Item item = belt.front; item != null; item = item.behind) {
            int before = item.place;
            item.goOn(belt, leastGap);
            noteReads(belt, item, before);
        }
    }

    private void noteReads(Belt belt, Item item, int before) {
        for (int i = 0; i < scanners.size(); i++) {
            Scanner scanner = scanners.get(i);
            boolean passed = scanner.belt == belt && before < scanner.place && item.place >= scanner.place;
            if (passed && waiting.size() < MOST_EDGES) {
                waiting.add(new Edge(time + scanner.delay, READ, item.number, scanner.number));
            }
        }
    }

    private static final class Way {
        Belt next;
        int share;
        int went;

        Way() {
            next = null;
            share = 1;
            went = 0;
        }

        void leadTo(Belt target, int newShare) {
            next = target;
            share = newShare;
            went = 0;
        }

        int nextNumber() {
            return next == null ? NONE : next.number;
        }

        // Cross products, because the quotients must be compared exactly.
        boolean isDueBefore(Way other) {
            return went * other.share < other.went * share;
        }
    }

    private static final class Belt {
        final int number;
        final int length;
        int speed;
        boolean runs;
        Item front;
        Item last;
        int size;
        private final Way wayZero;
        private final Way wayOne;

        Belt(int number, int length, int speed) {
            this.number = number;
            this.length = length;
            this.speed = speed;
            runs = true;
            front = null;
            last = null;
            size = 0;
            wayZero = new Way();
            wayOne = new Way();
        }

        Way wayNumbered(int way) {
            return way == 1 ? wayOne : wayZero;
        }

        // Null if the item can only go out.
        Way wayOf(Item item) {
            Way way = wayNumbered(item.way);
            if (way.next != null) {
                return way;
            }
            return wayZero.next != null ? wayZero : null;
        }

        // Only the front item can be at the end: the others are behind its rear.
        Item itemAtEnd() {
            return front != null && front.place == length ? front : null;
        }

        // Null if nothing is to be passed on from here now.
        Way wayInUse() {
            Item item = itemAtEnd();
            return runs && item != null ? wayOf(item) : null;
        }

        void takeOn(Item item) {
            item.startOn(this, last);
            if (last == null) {
                front = item;
            } else {
                last.behind = item;
            }
            last = item;
            size++;
        }

        void letGo(Item item) {
            if (item.ahead == null) {
                front = item.behind;
            } else {
                item.ahead.behind = item.behind;
            }
            if (item.behind == null) {
                last = item.ahead;
            } else {
                item.behind.ahead = item.ahead;
            }
            item.ahead = null;
            item.behind = null;
            size--;
        }
    }

    private static final class Item {
        final int number;
        final int length;
        final int putAt;
        // The last one still, when the item is on no belt any more.
        Belt belt;
        Item ahead;
        Item behind;
        int state;
        int place;
        int expected;
        int way;
        boolean wasTold;

        Item(int number, int length, int putAt) {
            this.number = number;
            this.length = length;
            this.putAt = putAt;
            belt = null;
            ahead = null;
            behind = null;
            state = ON_BELT;
            place = 0;
            expected = 0;
            way = 0;
            wasTold = false;
        }

        int rear() {
            return place - length;
        }

        void startOn(Belt newBelt, Item newAhead) {
            belt = newBelt;
            ahead = newAhead;
            behind = null;
            place = 0;
            expected = 0;
            forgetWay();
        }

        void leave(int newState) {
            if (belt != null) {
                belt.letGo(this);
            }
            state = newState;
            forgetWay();
        }

        void goOn(Belt mover, int leastGap) {
            int most = ahead == null ? mover.length : Math.min(mover.length, ahead.rear() - leastGap);
            place = Math.max(place, Math.min(place + mover.speed, most));
            expected = Math.min(expected + mover.speed, mover.length);
        }

        private void forgetWay() {
            way = 0;
            wasTold = false;
        }
    }

    private static final class Scanner {
        final int number;
        final Belt belt;
        final int place;
        final int delay;

        Scanner(int number, Belt belt, int place, int delay) {
            this.number = number;
            this.belt = belt;
            this.place = place;
            this.delay = delay;
        }
    }

    // A read stands here with the second in which it will be told.
    private static final class Edge {
        final int second;
        final int kind;
        final int item;
        final int where;

        Edge(int second, int kind, int item, int where) {
            this.second = second;
            this.kind = kind;
            this.item = item;
            this.where = where;
        }
    }
}
