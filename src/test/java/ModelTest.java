import java.util.ArrayList;
import java.util.List;

/** All promises: runs of calls, the same ones always, in which the program and the model must answer alike. */
public final class ModelTest {
    private static final int RUNS = 150;
    private static final int CALLS = 60;
    private static final int NAMES = 24;

    private static long seed = 1;

    public static void main(String[] args) {
        for (int run = 0; run < RUNS; run++) {
            seed = 7919L * run + 1;
            oneRun(run);
        }
        Checks.finish("ModelTest");
    }

    private static void oneRun(int run) {
        HiddenPeriods x = new HiddenPeriods();
        Model model = new Model();
        List<String> calls = new ArrayList<>();
        for (int i = 0; i < CALLS; i++) {
            int name = below(NAMES);
            int[] three = arguments(name);
            String call = name + " " + three[0] + " " + three[1] + " " + three[2];
            calls.add(call);
            String got = answer(() -> byProgram(x, name, three[0], three[1], three[2]));
            String due = answer(() -> byModel(model, name, three[0], three[1], three[2]));
            Checks.same("run " + run + ", call " + i + ", " + call, got, due);
            if (!got.equals(due)) {
                System.out.println("  the run: " + calls);
                return;
            }
        }
        Checks.same("run " + run + ", digest", x.digest(), Model.digestByLooks(x, model.buffer()));
        sameState(run, x, model);
    }

    private static void sameState(int run, HiddenPeriods x, Model model) {
        for (int what = 0; what < 10; what++) {
            Checks.same("run " + run + ", count(" + what + ")", x.count(what), model.count(what));
        }
        for (int place = 0; place < 240; place++) {
            Checks.same("run " + run + ", sign(" + place + ")", x.sign(place), model.sign(place));
        }
    }

    private interface Asked {
        String get();
    }

    private static String answer(Asked asked) {
        try {
            return asked.get();
        } catch (RuntimeException thrown) {
            return thrown.getClass().getName();
        }
    }

    // ---- arguments: mostly of the document's ranges, now and then outside

    private static int below(int bound) {
        seed = seed * 6364136223846793005L + 1442695040888963407L;
        return (int) ((seed >>> 33) % bound);
    }

    private static int from(int least, int most) {
        int kind = below(40);
        if (kind == 0) {
            return least - 1;
        }
        if (kind == 1) {
            return most + 1;
        }
        if (kind == 2) {
            return below(2) == 0 ? Integer.MIN_VALUE : Integer.MAX_VALUE;
        }
        return kind < 6 ? least : kind < 9 ? most : least + below(most - least + 1);
    }

    private static int tenths() {
        return below(3) == 0 ? from(10, 400) : from(10, 60);
    }

    private static int phase(int tenths) {
        return below(2) == 0 ? 0 : from(0, Math.max(1, Math.min(400, tenths)) - 1);
    }

    private static int code() {
        String likely = "abcdabcdab((()))23899";
        return below(12) == 0 ? from(33, 126) : likely.charAt(below(likely.length()));
    }

    private static int[] arguments(int name) {
        int tenths = tenths();
        switch (name) {
            case 0:
                return new int[] {from(0, 3), 0, 0};
            case 1:
                return new int[] {from(0, 60), from(0, 3), 0};
            case 2:
                return new int[] {below(3) > 0 ? from(1, 20) : from(1, 240), 0, 0};
            case 3:
                return new int[] {tenths, below(4) > 0 ? from(1, 60) : from(1, 240), from(0, below(2) == 0 ? 9 : 240)};
            case 4:
            case 18:
                return new int[] {tenths, phase(tenths), 0};
            case 5:
                return new int[] {from(0, 3), 0, 0};
            case 6:
            case 19:
                return new int[] {tenths, from(Math.max(10, Math.min(400, tenths)), 400), 0};
            case 8:
                return set();
            case 9:
                return new int[] {code(), 0, 0};
            case 14:
                return new int[] {from(0, 3), from(0, 6), 0};
            case 15:
                return new int[] {from(0, 3), from(0, below(2) == 0 ? 3 : 39), from(0, 4)};
            case 16:
                return new int[] {from(0, 80), from(0, 2), 0};
            case 17:
                return new int[] {from(0, 9), 0, 0};
            case 21:
                return new int[] {tenths, from(1, 60), 0};
            case 23:
                return new int[] {from(0, 2), 0, 0};
            default:
                return new int[] {name == 13 ? from(0, 239) : tenths, 0, 0};
        }
    }

    private static int[] set() {
        int setting = from(0, 2);
        if (setting == 2) {
            return new int[] {2, from(1, 100), 0};
        }
        return new int[] {setting, below(3) == 0 ? 0 : from(0, setting == 0 ? 80 : 240), 0};
    }

    // ---- calls; each writes a letter, or two, into the buffer of both alike where a text is read

    private static String byProgram(HiddenPeriods x, int name, int a, int b, int c) {
        switch (name) {
            case 0:
                return "" + x.put(a);
            case 1:
                return "" + x.change(a, b);
            case 2:
                return "" + x.cut(a);
            case 3:
                return "" + x.grow(a, b, c);
            case 4:
                return "" + x.keep(a, b);
            case 5:
                return "" + x.drop(a);
            case 6:
                return "" + x.find(a, b);
            case 7:
                return "" + x.mend();
            case 8:
                return "" + x.set(a, b);
            case 9:
                return "" + x.append(a);
            case 10:
                return x.firstError() + " " + x.clearBuffer();
            case 11:
                return "" + x.putAll();
            case 12:
                return "" + x.undo();
            case 13:
                return "" + x.sign(a);
            case 14:
                return "" + x.period(a, b);
            case 15:
                return "" + x.remainder(a, b, c);
            case 16:
                return "" + x.told(a, b);
            case 17:
                return "" + x.count(a);
            case 18:
                return "" + x.explains(a, b);
            case 19:
                return "" + x.best(a, b);
            case 20:
                return "" + x.bestPhase(a);
            case 21:
                return "" + x.bestWindow(a, b);
            case 22:
                return "" + x.share();
            default:
                return "" + x.setting(a);
        }
    }

    private static String byModel(Model x, int name, int a, int b, int c) {
        switch (name) {
            case 0:
                return "" + x.put(a);
            case 1:
                return "" + x.change(a, b);
            case 2:
                return "" + x.cut(a);
            case 3:
                return "" + x.grow(a, b, c);
            case 4:
                return "" + x.keep(a, b);
            case 5:
                return "" + x.drop(a);
            case 6:
                return "" + x.find(a, b);
            case 7:
                return "" + x.mend();
            case 8:
                return "" + x.set(a, b);
            case 9:
                return "" + x.append(a);
            case 10:
                return x.firstError() + " " + x.clearBuffer();
            case 11:
                return "" + x.putAll();
            case 12:
                return "" + x.undo();
            case 13:
                return "" + x.sign(a);
            case 14:
                return "" + x.period(a, b);
            case 15:
                return "" + x.remainder(a, b, c);
            case 16:
                return "" + x.told(a, b);
            case 17:
                return "" + x.count(a);
            case 18:
                return "" + x.explains(a, b);
            case 19:
                return "" + x.best(a, b);
            case 20:
                return "" + x.bestPhase(a);
            case 21:
                return "" + x.bestWindow(a, b);
            case 22:
                return "" + x.share();
            default:
                return "" + x.setting(a);
        }
    }
}
