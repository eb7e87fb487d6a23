import java.util.ArrayList;
import java.util.Comparator;
import java.util.List;
import java.util.NoSuchElementException;

/**
 * The document once more, as rows of numbers and with nothing clever, so that ModelTest can compare
 * two programs that share no code: ways are compared as fractions over a common denominator, reads are
 * sorted by what the document names, and expected places are added up from a log of the belt.
 */
final class PlainBelts {
    private static final int COMMON = 2520;

    private final List<int[]> belts = new ArrayList<>();
    private final List<int[]> items = new ArrayList<>();
    private final List<int[]> scanners = new ArrayList<>();
    private final List<int[]> edges = new ArrayList<>();
    private final List<int[]> reads = new ArrayList<>();
    private final List<Integer> out = new ArrayList<>();
    private final List<List<Integer>> rows = new ArrayList<>();
    private final List<List<Integer>> speedLogs = new ArrayList<>();
    private int gap = 100;
    private int time = 0;
    private int moved = 0;
    private int seconds = 0;

    // Cells of a belt.
    private static final int LENGTH = 0;
    private static final int SPEED = 1;
    private static final int RUNS = 2;
    private static final int NEXT = 3;
    private static final int SHARE = 5;
    private static final int WENT = 7;

    // Cells of an item.
    private static final int STATE = 0;
    private static final int BELT = 1;
    private static final int PLACE = 2;
    private static final int SIZE = 3;
    private static final int WAY = 4;
    private static final int CAME = 5;
    private static final int PUT = 6;
    private static final int TOLD = 7;

    private void there(boolean is) {
        if (!is) {
            throw new NoSuchElementException();
        }
    }

    private void range(boolean is) {
        if (!is) {
            throw new IllegalArgumentException();
        }
    }

    private void state(boolean is) {
        if (!is) {
            throw new IllegalStateException();
        }
    }

    private void room(boolean is) {
        if (!is) {
            throw new UnsupportedOperationException();
        }
    }

    private boolean isBelt(int b) {
        return 0 <= b && b < belts.size();
    }

    private boolean isItem(int i) {
        return 1 <= i && i <= items.size();
    }

    private int[] of(int item) {
        return items.get(item - 1);
    }

    private int rear(int item) {
        return of(item)[PLACE] - of(item)[SIZE];
    }

    int belt(int length, int speed) {
        range(1 <= length && length <= 10000 && 0 <= speed && speed <= 1000);
        room(belts.size() < 8);
        belts.add(new int[] {length, speed, 1, -1, -1, 1, 1, 0, 0});
        rows.add(new ArrayList<>());
        speedLogs.add(new ArrayList<>());
        return belts.size() - 1;
    }

    int join(int belt, int way, int to, int share) {
        there(isBelt(belt) && isBelt(to));
        range((way == 0 || way == 1) && 1 <= share && share <= 9 && to > belt);
        belts.get(belt)[NEXT + way] = to;
        belts.get(belt)[SHARE + way] = share;
        belts.get(belt)[WENT + way] = 0;
        return (int) belts.stream().filter(b -> b[NEXT] == to).count()
                + (int) belts.stream().filter(b -> b[NEXT + 1] == to).count();
    }

    void run(int belt, int speed, boolean on) {
        there(isBelt(belt));
        range(0 <= speed && speed <= 1000);
        belts.get(belt)[SPEED] = speed;
        belts.get(belt)[RUNS] = on ? 1 : 0;
    }

    void gaps(int newGap) {
        range(0 <= newGap && newGap <= 1000);
        gap = newGap;
    }

    int scanner(int belt, int place, int delay) {
        there(isBelt(belt));
        range(1 <= place && place <= belts.get(belt)[LENGTH] && 1 <= delay && delay <= 20);
        room(scanners.size() < 4);
        scanners.add(new int[] {belt, place, delay});
        return scanners.size() - 1;
    }

    private int startRear(int belt) {
        List<Integer> row = rows.get(belt);
        return row.isEmpty() ? Integer.MAX_VALUE : rear(row.get(row.size() - 1));
    }

    int item(int belt, int length) {
        there(isBelt(belt));
        range(1 <= length && length <= 2000);
        room(items.size() < 60);
        if (startRear(belt) < gap) {
            return startRear(belt) - gap;
        }
        items.add(new int[] {0, belt, 0, length, 0, 0, time, 0});
        come(items.size(), belt);
        return items.size();
    }

    private void come(int item, int belt) {
        int[] it = of(item);
        it[BELT] = belt;
        it[PLACE] = 0;
        it[WAY] = 0;
        it[TOLD] = 0;
        it[CAME] = speedLogs.get(belt).size();
        rows.get(belt).add(item);
    }

    private void leave(int item, int state) {
        rows.get(of(item)[BELT]).remove((Integer) item);
        of(item)[STATE] = state;
        of(item)[WAY] = 0;
    }

    int divert(int item, int way) {
        there(isItem(item));
        range(way == 0 || way == 1);
        state(of(item)[STATE] == 0);
        of(item)[WAY] = way;
        of(item)[TOLD]++;
        return Math.min(2, of(item)[TOLD]);
    }

    int step(int many) {
        range(0 <= many && many <= 100);
        int before = edges.size();
        for (int i = 0; i < many; i++) {
            second();
        }
        return edges.size() - before;
    }

    /** The item at a belt's end, or 0. */
    private int atEnd(int belt) {
        for (int item : rows.get(belt)) {
            if (of(item)[PLACE] == belts.get(belt)[LENGTH]) {
                return item;
            }
        }
        return 0;
    }

    private int wayOf(int item) {
        int[] belt = belts.get(of(item)[BELT]);
        int way = belt[NEXT + of(item)[WAY]] >= 0 ? of(item)[WAY] : 0;
        return belt[NEXT + way] >= 0 ? way : -1;
    }

    private void second() {
        time++;
        List<int[]> due = new ArrayList<>(reads);
        due.removeIf(r -> r[0] + scanners.get(r[3])[2] != time);
        due.sort(Comparator.comparingInt((int[] r) -> r[0]).thenComparingInt(r -> r[1]).thenComparingInt(r -> r[3]));
        reads.removeAll(due);
        for (int[] r : due) {
            edges.add(new int[] {time, 0, r[2], r[3]});
        }
        for (int b = belts.size() - 1; b >= 0; b--) {
            if (belts.get(b)[RUNS] == 1) {
                goOut(b);
                comeTo(b);
            }
        }
        for (int b = 0; b < belts.size(); b++) {
            if (belts.get(b)[RUNS] == 1) {
                move(b);
            }
        }
    }

    private void goOut(int b) {
        int item = atEnd(b);
        if (item != 0 && wayOf(item) < 0) {
            leave(item, 1);
            out.add(item);
            seconds += time - of(item)[PUT];
            edges.add(new int[] {time, 1, item, b});
        }
    }

    private void comeTo(int b) {
        int chosen = 0;
        int least = Integer.MAX_VALUE;
        for (int from = 0; from < belts.size(); from++) {
            int item = atEnd(from);
            int[] belt = belts.get(from);
            int way = item == 0 ? -1 : wayOf(item);
            if (belt[RUNS] == 1 && way >= 0 && belt[NEXT + way] == b) {
                int part = belt[WENT + way] * (COMMON / belt[SHARE + way]);
                if (part < least) {
                    least = part;
                    chosen = item;
                }
            }
        }
        if (chosen != 0 && startRear(b) >= gap) {
            int from = of(chosen)[BELT];
            belts.get(from)[WENT + wayOf(chosen)]++;
            rows.get(from).remove((Integer) chosen);
            come(chosen, b);
            edges.add(new int[] {time, 2, chosen, b});
        }
    }

    private void move(int b) {
        int[] belt = belts.get(b);
        speedLogs.get(b).add(belt[SPEED]);
        int most = belt[LENGTH];
        for (int item : rows.get(b)) {
            int[] it = of(item);
            int before = it[PLACE];
            if (before < most) {
                it[PLACE] = Math.min(before + belt[SPEED], most);
            }
            moved++;
            for (int s = 0; s < scanners.size(); s++) {
                int[] scanner = scanners.get(s);
                if (scanner[0] == b && before < scanner[1] && scanner[1] <= it[PLACE]) {
                    reads.add(new int[] {time, moved, item, s});
                }
            }
            most = rear(item) - gap;
        }
    }

    int edge(int i, int what) {
        there(0 <= i && i < edges.size());
        range(0 <= what && what <= 3);
        return edges.get(i)[what];
    }

    int slip(int item, int by) {
        there(isItem(item));
        range(1 <= by && by <= 1000);
        int[] it = of(item);
        state(it[STATE] == 0);
        state(it[PLACE] - by >= 0);
        List<Integer> row = rows.get(it[BELT]);
        int behind = row.indexOf(item) + 1;
        state(behind == row.size() || rear(item) - by >= of(row.get(behind))[PLACE] + gap);
        it[PLACE] -= by;
        return it[PLACE];
    }

    void take(int item) {
        there(isItem(item));
        state(of(item)[STATE] == 0);
        leave(item, 2);
    }

    int clean(int belt) {
        there(isBelt(belt));
        state(belts.get(belt)[RUNS] == 0);
        List<Integer> all = new ArrayList<>(rows.get(belt));
        for (int item : all) {
            leave(item, 2);
        }
        return all.size();
    }

    int gap(int item, int other) {
        there(isItem(item) && isItem(other));
        state(item != other && of(item)[STATE] == 0 && of(other)[STATE] == 0);
        state(of(item)[BELT] == of(other)[BELT]);
        List<Integer> row = rows.get(of(item)[BELT]);
        return row.indexOf(item) < row.indexOf(other)
                ? rear(item) - of(other)[PLACE]
                : rear(other) - of(item)[PLACE];
    }

    int told(int item, int what) {
        there(isItem(item));
        range(0 <= what && what <= 6);
        int[] it = of(item);
        if (it[STATE] != 0 && (what == PLACE || what == 5)) {
            return -1;
        }
        if (what == 5) {
            List<Integer> log = speedLogs.get(it[BELT]);
            int sum = log.subList(it[CAME], log.size()).stream().mapToInt(s -> s).sum();
            return Math.min(sum, belts.get(it[BELT])[LENGTH]);
        }
        return it[what];
    }

    int known(int belt, int what) {
        there(isBelt(belt));
        range(0 <= what && what <= 8);
        List<Integer> row = rows.get(belt);
        switch (what) {
            case 3:
                return row.size();
            case 4:
                return row.isEmpty() ? -1 : row.get(0);
            case 5:
            case 6:
                return belts.get(belt)[NEXT + what - 5];
            case 7:
            case 8:
                return belts.get(belt)[WENT + what - 7];
            default:
                return belts.get(belt)[what];
        }
    }

    int order(int i) {
        there(0 <= i && i < out.size());
        return out.get(i);
    }

    int mean() {
        return seconds / out.size();
    }

    int count(int what) {
        int onBelts = (int) items.stream().filter(i -> i[STATE] == 0).count();
        int[] all = {
            belts.size(), items.size(), onBelts, out.size(), edges.size(), time, scanners.size(), reads.size()
        };
        return 0 <= what && what < all.length ? all[what] : -1;
    }
}
