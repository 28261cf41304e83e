/** What the tests have in common: they tell every answer that is not due, and end with 1 if there was one. */
final class Checks {
    interface Call {
        void run();
    }

    static final Class<?> ARGUMENT = IllegalArgumentException.class;
    static final Class<?> STATE = IllegalStateException.class;
    static final Class<?> INDEX = IndexOutOfBoundsException.class;

    private static int right = 0;
    private static int wrong = 0;

    private Checks() {
    }

    static void same(String what, long got, long due) {
        tell(got == due, what + " answered " + got + ", due is " + due);
    }

    static void same(String what, double got, double due) {
        tell(Double.doubleToLongBits(got) == Double.doubleToLongBits(due), what + " answered " + got + ", due is " + due);
    }

    static void same(String what, String got, String due) {
        tell(got.equals(due), what + " is " + got + ", due is " + due);
    }

    static void holds(String what, boolean held) {
        tell(held, what + " does not hold");
    }

    /** The call throws just this class of exception, by a throw of the program, and changes nothing. */
    static void refuses(HiddenPeriods x, String what, Class<?> due, Call call) {
        long before = x.digest();
        Class<?> got = thrownBy(call);
        tell(got == due, what + " threw " + got + ", due is " + due);
        same("the digest behind the refused " + what, x.digest(), before);
    }

    static Class<?> thrownBy(Call call) {
        try {
            call.run();
            return null;
        } catch (Throwable thrown) {
            return thrown.getClass();
        }
    }

    static void finish(String test) {
        System.out.println(test + ": " + right + " answers are as due, " + wrong + " are not");
        if (wrong > 0 || right == 0) {
            System.exit(1);
        }
    }

    private static void tell(boolean held, String text) {
        if (held) {
            right++;
            return;
        }
        wrong++;
        if (wrong <= 50) {
            System.out.println("  " + text);
        }
    }

    // ---- rows

    static HiddenPeriods rowOf(String signs) {
        HiddenPeriods x = new HiddenPeriods();
        for (int i = 0; i < signs.length(); i++) {
            x.put(signs.charAt(i) - 'a');
        }
        return x;
    }

    static String row(HiddenPeriods x) {
        StringBuilder signs = new StringBuilder();
        for (int place = 0; place < x.count(0); place++) {
            signs.append((char) ('a' + x.sign(place)));
        }
        return signs.toString();
    }

    static void window(HiddenPeriods x, int first, int places) {
        x.set(0, first);
        x.set(1, places);
    }

    static void type(HiddenPeriods x, String text) {
        for (int i = 0; i < text.length(); i++) {
            x.append(text.charAt(i));
        }
    }
}
