import java.lang.reflect.InvocationTargetException;
import java.lang.reflect.Method;
import java.lang.reflect.Modifier;
import java.util.Arrays;
import java.util.HashMap;
import java.util.Map;
import java.util.Random;

/** Random runs of calls, wrong ones among them, answered by BeltRows as by PlainBelts. */
public final class ModelTest {
    private static final int RUNS = 3000;
    private static final int CALLS = 512;
    private static final int[] WILD = {
        Integer.MIN_VALUE, -100000, -2, -1, 0, 1, 2, 9, 10, 60, 61, 1000, 1001, 2001, 10001, Integer.MAX_VALUE
    };

    private static final Map<String, Method> ON_REAL = methodsOf(BeltRows.class);
    private static final Map<String, Method> ON_PLAIN = methodsOf(PlainBelts.class);

    private final Check check;
    private final Random random;
    private final int seed;
    private final BeltRows real = new BeltRows();
    private final PlainBelts plain = new PlainBelts();
    // How wild a run is, and how short its belts are: jams and quick flows both must come.
    private final int wildness;
    private final int size;

    private ModelTest(Check check, int seed) {
        this.check = check;
        this.seed = seed;
        random = new Random(seed);
        wildness = seed % 3 == 0 ? 8 : 60;
        size = new int[] {20, 300, 3000, 10000}[seed % 4];
    }

    public static void main(String[] args) {
        Check check = new Check();
        int[] seen = new int[4];
        for (int seed = 0; seed < RUNS; seed++) {
            new ModelTest(check, seed).runOne(seen);
        }
        System.out.println("read " + seen[0] + ", out " + seen[1] + ", passed on " + seen[2]
                + ", refused or wanting room " + seen[3]);
        for (int many : seen) {
            if (many < RUNS) {
                check.complain("the random runs reach too little");
            }
        }
        check.end();
    }

    private void runOne(int[] seen) {
        for (int i = 0; i < CALLS; i++) {
            int call = i < 30 ? random.nextInt(8) : random.nextInt(40);
            if (!oneCall(call)) {
                seen[3]++;
            }
        }
        compareAll(seen);
    }

    private int some(int least, int most) {
        if (random.nextInt(wildness) == 0) {
            return WILD[random.nextInt(WILD.length)];
        }
        if (random.nextInt(12) == 0) {
            return random.nextBoolean() ? least : most;
        }
        return least + random.nextInt(Math.max(1, most - least + 1));
    }

    private int someBelt() {
        return some(0, plain.count(0) - 1);
    }

    /** The newest items rather than the oldest, which are on no belt any more. */
    private int someItem() {
        int many = plain.count(1);
        return random.nextInt(3) == 0 ? some(1, many) : some(Math.max(1, many - 8), many);
    }

    private boolean oneCall(int call) {
        int a = someBelt();
        int i = someItem();
        int j = someItem();
        int way = some(0, 1);
        switch (call) {
            case 0:
                return same("belt", some(1, size), some(0, Math.min(1000, size)));
            case 1:
            case 2:
                return same("join", a, way, some(a + 1, plain.count(0) - 1), some(1, 9));
            case 3:
                return same("run", a, some(0, Math.min(1000, size)), random.nextInt(3));
            case 4:
                return random.nextInt(4) == 0 && same("gaps", some(0, random.nextInt(6) == 0 ? 1000 : size / 10));
            case 5:
                return same("scanner", a, some(1, plain.count(0) == 0 ? 1 : known(a)), some(1, 20));
            case 6:
            case 7:
            case 8:
            case 9:
            case 10:
            case 11:
                return same("item", a, some(1, Math.max(1, Math.min(2000, size / 10))));
            case 12:
            case 13:
                return same("divert", i, way);
            case 14:
            case 15:
            case 16:
            case 17:
            case 18:
            case 19:
            case 20:
            case 21:
                return same("step", random.nextInt(20) == 0 ? some(0, 100) : some(0, 3));
            case 22:
            case 23:
                return same("edge", some(0, plain.count(4)), some(0, 3));
            case 24:
            case 25:
                return same("slip", i, some(1, Math.min(1000, size / 5)));
            case 26:
                return random.nextInt(3) == 0 && same("take", i);
            case 27:
                return random.nextInt(3) == 0 && same("clean", a);
            case 28:
            case 29:
                return same("gap", i, j);
            case 30:
            case 31:
            case 32:
                return same("told", i, some(0, 6));
            case 33:
            case 34:
                return same("known", a, some(0, 8));
            case 35:
                return same("order", some(0, plain.count(3)));
            case 36:
                return same("mean");
            default:
                return same("count", some(0, 7));
        }
    }

    private int known(int belt) {
        return 0 <= belt && belt < plain.count(0) ? plain.known(belt, 0) : size;
    }

    private static Map<String, Method> methodsOf(Class<?> of) {
        Map<String, Method> all = new HashMap<>();
        for (Method m : of.getDeclaredMethods()) {
            if (!Modifier.isPrivate(m.getModifiers())) {
                all.put(m.getName(), m);
            }
        }
        return all;
    }

    /** The answer, 0 of a call without one; what the call throws is thrown on. */
    private static int ask(Object asked, Method method, int... numbers) {
        Object[] arguments = new Object[numbers.length];
        for (int i = 0; i < numbers.length; i++) {
            boolean isTruth = method.getParameterTypes()[i] == boolean.class;
            arguments[i] = isTruth ? (Object) (numbers[i] != 0) : (Object) numbers[i];
        }
        try {
            Object answer = method.invoke(asked, arguments);
            return answer == null ? 0 : (Integer) answer;
        } catch (InvocationTargetException e) {
            if (e.getCause() instanceof RuntimeException thrown) {
                throw thrown;
            }
            throw new Error(e);
        } catch (IllegalAccessException e) {
            throw new Error(e);
        }
    }

    /** Whether the call was answered, and not refused or in want of room. */
    private boolean same(String name, int... a) {
        String what = "seed " + seed + ", second " + plain.count(5) + ": " + name + Arrays.toString(a);
        int due;
        try {
            due = ask(plain, ON_PLAIN.get(name), a);
        } catch (RuntimeException e) {
            check.fails(what, e.getClass(), () -> ask(real, ON_REAL.get(name), a));
            return false;
        }
        try {
            check.is(what, ask(real, ON_REAL.get(name), a), due);
        } catch (RuntimeException e) {
            check.complain(what + " threw " + e + ", due is " + due);
        }
        return !(name.equals("item") && due < 0);
    }

    private void compareAll(int[] seen) {
        for (int what = -1; what <= 8; what++) {
            same("count", what);
        }
        for (int belt = 0; belt < plain.count(0); belt++) {
            for (int what = 0; what <= 8; what++) {
                same("known", belt, what);
            }
        }
        for (int item = 1; item <= plain.count(1); item++) {
            for (int what = 0; what <= 6; what++) {
                same("told", item, what);
            }
        }
        for (int i = 0; i < plain.count(4); i++) {
            for (int what = 0; what <= 3; what++) {
                same("edge", i, what);
            }
            seen[plain.edge(i, 1)]++;
        }
        for (int i = 0; i <= plain.count(3); i++) {
            same("order", i);
        }
        same("mean");
    }
}
