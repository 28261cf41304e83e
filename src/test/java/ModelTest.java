import java.lang.reflect.InvocationTargetException;
import java.lang.reflect.Method;
import java.util.Arrays;
import java.util.ArrayList;
import java.util.List;

/** All promises: runs of calls, the same ones always, in which the program and the model must answer alike. */
public final class ModelTest {
    private static final int RUNS = 300;
    private static final int CALLS = 60;
    private static final String[] NAMES = {"put", "change", "cut", "grow", "keep", "drop", "find", "mend", "set", "append",
        "clearBuffer", "firstError", "putAll", "undo", "sign", "period", "remainder", "told", "count", "setting", "explains",
        "best", "bestPhase", "bestWindow", "share"};

    private static long seed = 1;
    private static int unrefused = 0;

    private final HiddenPeriods program = new HiddenPeriods();
    private final Model model = new Model();
    private final List<String> calls = new ArrayList<>();
    private boolean alike = true;

    public static void main(String[] args) {
        for (int run = 0; run < RUNS; run++) {
            seed = 7919L * run + 1;
            new ModelTest().run("run " + run);
        }
        Checks.holds("more than half of the calls are answered", 2 * unrefused > RUNS * CALLS);
        Checks.finish("ModelTest");
    }

    private void run(String run) {
        for (int i = 0; i < CALLS && alike; i++) {
            String name = NAMES[below(NAMES.length)];
            if (name.equals("firstError") || name.equals("putAll")) {
                type(run);
            }
            compare(run, name, arguments(name));
        }
        if (!alike) {
            System.out.println("  the calls: " + calls);
            return;
        }
        Checks.same(run + ", digest()", program.digest(), Model.digestByLooks(program, model.buffer()));
        for (int what = 0; what < 10; what++) {
            compare(run, "count", what);
        }
        for (int place = 0; place < 240; place++) {
            compare(run, "sign", place);
        }
    }

    private void compare(String run, String name, int... arguments) {
        Object[] values = Arrays.stream(arguments).boxed().toArray();
        Class<?>[] types = new Class<?>[values.length];
        Arrays.fill(types, int.class);
        calls.add(name + Arrays.toString(values));
        String got = answer(program, name, types, values);
        String due = answer(model, name, types, values);
        Checks.same(run + ", " + calls.get(calls.size() - 1), got, due);
        alike = alike && got.equals(due);
        unrefused += due.endsWith("Exception") ? 0 : 1;
    }

    private static String answer(Object object, String name, Class<?>[] types, Object[] values) {
        try {
            Method method = object.getClass().getDeclaredMethod(name, types);
            return String.valueOf(method.invoke(object, values));
        } catch (InvocationTargetException thrown) {
            return thrown.getCause().getClass().getName();
        } catch (ReflectiveOperationException other) {
            throw new IllegalStateException(other);
        }
    }

    // ---- arguments: mostly of the document's ranges, now and then outside

    private static int below(int bound) {
        seed = seed * 6364136223846793005L + 1442695040888963407L;
        return (int) ((seed >>> 33) % bound);
    }

    private static int from(int least, int most) {
        int kind = below(40);
        if (kind == 0) {
            return least - 1;
        }
        if (kind == 1) {
            return most + 1;
        }
        if (kind == 2) {
            return below(2) == 0 ? Integer.MIN_VALUE : Integer.MAX_VALUE;
        }
        return kind < 6 ? least : kind < 9 ? most : least + below(most - least + 1);
    }

    private static int tenths() {
        return below(3) == 0 ? from(10, 400) : from(10, 60);
    }

    private static int[] arguments(String name) {
        int tenths = tenths();
        int inRange = Math.max(10, Math.min(400, tenths));
        switch (name) {
            case "put":
                return new int[] {from(0, 3)};
            case "change":
                return new int[] {from(0, 60), from(0, 3)};
            case "cut":
                return new int[] {below(3) > 0 ? from(1, 20) : from(1, 240)};
            case "grow":
                return new int[] {tenths, below(4) > 0 ? from(1, 60) : from(1, 240), from(0, below(2) == 0 ? 9 : 240)};
            case "keep":
            case "explains":
                return new int[] {tenths, below(2) == 0 ? 0 : from(0, inRange - 1)};
            case "drop":
                return new int[] {from(0, 3)};
            case "find":
            case "best":
                return new int[] {tenths, from(inRange, 400)};
            case "set":
                return set();
            case "append":
                return new int[] {code()};
            case "sign":
                return new int[] {from(0, 239)};
            case "period":
                return new int[] {from(0, 2), from(0, 6)};
            case "remainder":
                return new int[] {from(0, 2), from(0, below(2) == 0 ? 2 : 39), from(0, 4)};
            case "told":
                return new int[] {from(0, 80), from(0, 2)};
            case "count":
                return new int[] {from(0, 9)};
            case "setting":
                return new int[] {from(0, 2)};
            case "bestPhase":
                return new int[] {tenths};
            case "bestWindow":
                return new int[] {tenths, from(1, 60)};
            default:
                return new int[0];
        }
    }

    private static int[] set() {
        int setting = from(0, 2);
        if (setting == 2) {
            return new int[] {2, from(1, 100)};
        }
        return new int[] {setting, below(3) == 0 ? 0 : from(0, setting == 0 ? 80 : 240)};
    }

    private static int code() {
        String likely = "abcdabcdab((()))23899";
        return below(12) == 0 ? from(33, 126) : likely.charAt(below(likely.length()));
    }

    // Characters by chance are seldom a text, so a text is typed, now and then with a character too many.
    private void type(String run) {
        compare(run, "clearBuffer");
        for (int part = below(5); part >= 0; part--) {
            if (below(2) == 0) {
                compare(run, "append", 'a' + below(4));
                continue;
            }
            compare(run, "append", '(');
            for (int letter = below(6); letter >= 0; letter--) {
                compare(run, "append", 'a' + below(4));
            }
            compare(run, "append", ')');
            compare(run, "append", '2' + below(8));
        }
        if (below(4) == 0) {
            compare(run, "append", code());
        }
    }
}
