import java.lang.reflect.InvocationTargetException;
import java.lang.reflect.Method;
import java.util.ArrayList;
import java.util.Arrays;
import java.util.HashMap;
import java.util.List;
import java.util.Map;

/** Long runs of calls, always the same ones, on a Billiardry and on the Oracle: all answers must agree. */
public final class RandomRunsTest {
    private static final int RUNS = 200;
    private static final int CALLS = 512;

    /** Behind the name of a call stand its arguments' kinds. */
    private static final String[][] ROOM = {
        {"block x x b", "block x x b", "block x x b", "period x x s b", "periodAnew x x s b", "bounces x x s b"},
        {"touched x x s b", "bounce x x s b n", "state x x s b t", "paths", "mean", "block x x b"},
    };
    private static final String[][] LAMPS = {
        {"block x x b", "block x x b", "lamp x x", "sees x x x x", "sees x x x x", "seesAnew x x x x"},
        {"seesAnew x x x x", "lit", "share", "block x x b", "lit", "share"},
    };
    private static final String[][] SURFACE = {
        {"surface z", "glue q q b", "glue q q b", "glue q q b", "shear", "turn"},
        {"square q k", "square q k", "count c", "count c", "genus", "code", "kin", "glue q q b"},
    };
    private static final String[][] EXCHANGE = {
        {"interval l", "swap p p", "induce", "induce", "told p o", "told p o"},
        {"image r", "back r", "cycle r", "cycles", "apart", "interval l", "swap p p"},
    };

    private final Map<String, Method> inClass = methodsOf(Billiardry.class);
    private final Map<String, Method> inOracle = methodsOf(Oracle.class);
    private long seed;

    private RandomRunsTest(long seed) {
        this.seed = seed * 7919L + 12345L;
    }

    private static Map<String, Method> methodsOf(Class<?> of) {
        Map<String, Method> methods = new HashMap<>();
        for (Method method : of.getDeclaredMethods()) {
            methods.put(method.getName(), method);
        }
        return methods;
    }

    private int below(int bound) {
        seed = seed * 6364136223846793005L + 1442695040888963407L;
        return (int) ((seed >>> 33) % bound);
    }

    private int within(int least, int most) {
        if (below(25) == 0) {
            int[] odd = {least - 1, most + 1, Integer.MIN_VALUE, Integer.MAX_VALUE, -1, least, most, 0};
            return odd[below(odd.length)];
        }
        return least + below(most - least + 1);
    }

    /** How likely a BLOCK is laid unlike taken away differs from run to run, so that ROOMS do. */
    private Object argument(String kind, int density, Oracle oracle) {
        switch (kind) {
            case "x": return within(0, 7);
            case "b": return below(100) < density;
            case "s": return within(0, 3);
            case "n": return below(10) == 0 ? within(0, 100000) : within(0, 30);
            case "t": return below(3) == 0 ? below(Integer.MAX_VALUE) : within(0, 600);
            case "z": return below(3) == 0 ? within(1, 5) : 5 - below(2);
            case "q": return within(0, oracle.count(0) - 1);
            case "k": return within(0, 6);
            case "c": return within(0, 4);
            case "l": return below(2) == 0 ? within(1, 50) : within(1, 6);
            case "p": return within(0, Math.max(0, intervalsOf(oracle) - 1));
            case "o": return within(0, 2);
            default: return within(0, Math.max(0, pointsOf(oracle) - 1));
        }
    }

    private static int intervalsOf(Oracle oracle) {
        int intervals = 0;
        while (intervals < 6 && isThere(oracle, intervals)) {
            intervals++;
        }
        return intervals;
    }

    private static boolean isThere(Oracle oracle, int place) {
        try {
            oracle.told(place, 0);
            return true;
        } catch (IndexOutOfBoundsException e) {
            return false;
        }
    }

    private static int pointsOf(Oracle oracle) {
        int points = 0;
        for (int place = 0; place < intervalsOf(oracle); place++) {
            points += oracle.told(place, 2);
        }
        return points;
    }

    private static String answer(Method method, Object on, Object[] arguments) {
        try {
            return String.valueOf(method.invoke(on, arguments));
        } catch (InvocationTargetException e) {
            return "throws " + e.getCause().getClass().getName();
        } catch (IllegalAccessException e) {
            return "cannot be called";
        }
    }

    private void run(int number, List<String> calls) {
        Billiardry asked = new Billiardry();
        Oracle oracle = new Oracle();
        int density = 10 + 20 * below(5);
        for (int k = 0; k < CALLS; k++) {
            String[] call = calls.get(below(calls.size())).split(" ");
            Object[] arguments = new Object[call.length - 1];
            for (int place = 0; place < arguments.length; place++) {
                arguments[place] = argument(call[place + 1], density, oracle);
            }
            String due = answer(inOracle.get(call[0]), oracle, arguments);
            String got = answer(inClass.get(call[0]), asked, arguments);
            Check.sameText("run " + number + ", call " + k + ": " + call[0] + Arrays.toString(arguments), got, due);
        }
    }

    public static void main(String[] args) {
        String[][][] parts = {ROOM, LAMPS, SURFACE, EXCHANGE};
        for (int number = 0; number < RUNS; number++) {
            List<String> calls = new ArrayList<>();
            for (int part = 0; part < parts.length; part++) {
                if (number % 5 == part || number % 5 == 4) {
                    calls.addAll(Arrays.asList(parts[part][0]));
                    calls.addAll(Arrays.asList(parts[part][1]));
                }
            }
            new RandomRunsTest(number).run(number, calls);
        }
        Check.end("RandomRunsTest");
    }
}
