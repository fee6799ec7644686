import java.lang.reflect.InvocationTargetException;
import java.lang.reflect.Method;
import java.util.Arrays;
import java.util.Random;

/**
 * Runs of 512 calls, drawn from fixed seeds, with the answers of PlainStore as those that are due.
 * Each run draws its calls by weights of its own, so that some runs fill the log and some collect a lot.
 */
final class ModelTests {
    private static final int RUNS = 3000;
    private static final int CALLS = 512;
    private static final String[] NAMES = {
        "put", "delete", "get", "next", "sum", "fetches", "synchronize", "checkpoint", "collect",
        "failAfter", "crash", "start", "isUp", "head", "tail", "written", "checkpointAt", "positionOf",
        "segments", "live", "toFree", "wouldHave",
    };
    private static final int[] EDGES = {
        Integer.MIN_VALUE, -2, -1, 0, 1, 63, 64, 95, 96, 97, 999, 1000, 1001, 9999, 10000,
        Integer.MAX_VALUE - 1, Integer.MAX_VALUE,
    };

    private final Checks checks;
    private final Method[] ofProgram = methodsOf(Keysapart.class);
    private final Method[] ofPlain = methodsOf(PlainStore.class);

    ModelTests(Checks checks) {
        this.checks = checks;
    }

    void run() {
        checks.test("random runs against the plain store", this::randomRuns);
    }

    private void randomRuns() {
        for (int seed = 0; seed < RUNS; seed++) {
            String fault = oneRun(new Random(seed));
            if (fault != null) {
                checks.wrong("seed " + seed + ": " + fault);
                return;
            }
        }
    }

    /** Returns what is wrong, or null. */
    private String oneRun(Random random) {
        Keysapart program = new Keysapart();
        PlainStore plain = new PlainStore();
        int[] weights = weights(random);
        int keys = 1 + random.nextInt(64);
        for (int call = 0; call < CALLS; call++) {
            int which = draw(weights, random);
            Object[] arguments = arguments(which, keys, random);
            String got = answer(program, ofProgram[which], arguments);
            String want = answer(plain, ofPlain[which], arguments);
            if (!got.equals(want)) {
                return "call " + call + ", " + NAMES[which] + Arrays.toString(arguments)
                    + ", answered " + got + ", due is " + want;
            }
        }
        return null;
    }

    private static int[] weights(Random random) {
        int[] weights = new int[NAMES.length];
        for (int which = 0; which < weights.length; which++) {
            weights[which] = switch (NAMES[which]) {
                case "put" -> 5 + random.nextInt(60);
                case "delete" -> random.nextInt(20);
                case "collect" -> random.nextInt(15);
                case "crash" -> random.nextInt(3);
                case "start" -> 4;
                default -> 1 + random.nextInt(4);
            };
        }
        return weights;
    }

    private static int draw(int[] weights, Random random) {
        int all = 0;
        for (int weight : weights) {
            all += weight;
        }
        int rest = random.nextInt(all);
        int which = 0;
        while (rest >= weights[which]) {
            rest -= weights[which];
            which++;
        }
        return which;
    }

    private Object[] arguments(int which, int keys, Random random) {
        Object[] arguments = new Object[ofProgram[which].getParameterCount()];
        int last = 0;
        for (int k = 0; k < arguments.length; k++) {
            last = random.nextInt(40) == 0
                ? EDGES[random.nextInt(EDGES.length)]
                : ordinary(NAMES[which], k, last, keys, random);
            arguments[k] = last;
        }
        return arguments;
    }

    private static int ordinary(String name, int k, int last, int keys, Random random) {
        if (name.equals("collect")) {
            return 1 + random.nextInt(random.nextInt(96) + 1);
        }
        if (name.equals("failAfter")) {
            return random.nextInt(20) - 1;
        }
        if (name.equals("put") && k == 1) {
            return random.nextInt(10000);
        }
        return k == 0 ? random.nextInt(keys) : Math.max(last, random.nextInt(keys));
    }

    private static Method[] methodsOf(Class<?> type) {
        Method[] found = new Method[NAMES.length];
        for (Method method : type.getDeclaredMethods()) {
            for (int which = 0; which < NAMES.length; which++) {
                if (method.getName().equals(NAMES[which])) {
                    found[which] = method;
                }
            }
        }
        return found;
    }

    private static String answer(Object store, Method method, Object[] arguments) {
        try {
            return String.valueOf(method.invoke(store, arguments));
        } catch (InvocationTargetException e) {
            return "throws." + e.getCause().getClass().getSimpleName();
        } catch (IllegalAccessException e) {
            throw new AssertionError(e);
        }
    }
}
