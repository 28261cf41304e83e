import java.util.function.Consumer;
import java.util.function.Supplier;

/** What the tests have in common: they tell every answer that is not due, and end with 1 if there was one. */
final class Checks {
    interface Call {
        void run();
    }

    static final Class<?> ARGUMENT = IllegalArgumentException.class;
    static final Class<?> STATE = IllegalStateException.class;
    static final Class<?> INDEX = IndexOutOfBoundsException.class;

    private static int right = 0;
    private static int wrong = 0;

    private Checks() {
    }

    static void same(String what, long got, long due) {
        tell(got == due, what + " answered " + got + ", due is " + due);
    }

    static void same(String what, double got, double due) {
        tell(Double.doubleToLongBits(got) == Double.doubleToLongBits(due), what + " answered " + got + ", due is " + due);
    }

    static void same(String what, String got, String due) {
        tell(got.equals(due), what + " is " + got + ", due is " + due);
    }

    static void holds(String what, boolean held) {
        tell(held, what + " does not hold");
    }

    /** The call throws just this class of exception, by a throw of the program, and changes nothing. */
    static void refuses(HiddenPeriods x, String what, Class<?> due, Call call) {
        long before = x.digest();
        Class<?> got = thrownBy(call);
        tell(got == due, what + " threw " + got + ", due is " + due);
        same("the digest behind the refused " + what, x.digest(), before);
    }

    /** As refuses(), of a new object of its kind, whose saved states are looked at too: an other object tells what they are. */
    static void refused(String what, Supplier<HiddenPeriods> made, Class<?> due, Consumer<HiddenPeriods> call) {
        HiddenPeriods x = made.get();
        Class<?> got = thrownBy(() -> call.accept(x));
        tell(got == due, what + " threw " + got + ", due is " + due);
        alikeToTheirBegins("behind the refused " + what, x, made.get());
    }

    /** The call saves one state, and undo brings back all that was before it, but the buffer. */
    static void undoable(String what, Supplier<HiddenPeriods> made, Consumer<HiddenPeriods> call) {
        HiddenPeriods x = made.get();
        int saved = x.count(9);
        call.accept(x);
        same("saved by " + what, x.count(9), Math.min(6, saved + 1));
        same("undo() of " + what, x.undo(), Math.min(5, saved));
        HiddenPeriods y = made.get();
        x.clearBuffer();
        y.clearBuffer();
        if (saved < 6) {
            alikeToTheirBegins("behind undo() of " + what, x, y);
        }
    }

    static void alikeToTheirBegins(String what, HiddenPeriods x, HiddenPeriods y) {
        same("the digest " + what, x.digest(), y.digest());
        for (int i = 0; i < 6 && x.count(9) > 0 && y.count(9) > 0; i++) {
            x.undo();
            y.undo();
            same("the digest, " + (i + 1) + " back, " + what, x.digest(), y.digest());
        }
    }

    /** What lies just outside of a range, and as far from it as can be. */
    static int[] outside(int least, int most) {
        return new int[] {least - 1, most + 1, Integer.MIN_VALUE, Integer.MAX_VALUE};
    }

    static Class<?> thrownBy(Call call) {
        try {
            call.run();
            return null;
        } catch (Throwable thrown) {
            return thrown.getClass();
        }
    }

    static int rightOnes() {
        return right;
    }

    static int wrongOnes() {
        return wrong;
    }

    static void finish(String test) {
        System.out.println(test + ": " + right + " answers are as due, " + wrong + " are not");
        if (wrong > 0 || right == 0) {
            System.exit(1);
        }
    }

    private static void tell(boolean held, String text) {
        if (held) {
            right++;
            return;
        }
        wrong++;
        if (wrong <= 50) {
            System.out.println("  " + text);
        }
    }

    // ---- rows

    static HiddenPeriods rowOf(String signs) {
        HiddenPeriods x = new HiddenPeriods();
        for (int i = 0; i < signs.length(); i++) {
            x.put(signs.charAt(i) - 'a');
        }
        return x;
    }

    static HiddenPeriods typed(String text) {
        HiddenPeriods x = new HiddenPeriods();
        type(x, text);
        return x;
    }

    /** The row of a text, with one saved state alone. */
    static HiddenPeriods textOf(String text) {
        HiddenPeriods x = typed(text);
        x.putAll();
        return x;
    }

    /** A row of as many signs "a" as are asked for, with one saved state alone. */
    static HiddenPeriods rowOfMany(int many) {
        HiddenPeriods x = new HiddenPeriods();
        x.grow(10, many, 0);
        return x;
    }

    static String row(HiddenPeriods x) {
        StringBuilder signs = new StringBuilder();
        for (int place = 0; place < x.count(0); place++) {
            signs.append((char) ('a' + x.sign(place)));
        }
        return signs.toString();
    }

    static void window(HiddenPeriods x, int first, int places) {
        x.set(0, first);
        x.set(1, places);
    }

    static void type(HiddenPeriods x, String text) {
        for (int i = 0; i < text.length(); i++) {
            x.append(text.charAt(i));
        }
    }
}
