/** Promises 6 to 10: keep, drop, find, mend and set. */
public final class PeriodsTest {
    public static void main(String[] args) {
        keep();
        keepRefused();
        drop();
        find();
        findRefused();
        mend();
        mendTogether();
        mendLooksAhead();
        mendInWindow();
        mendNothing();
        set();
        setRefused();
        Checks.finish("PeriodsTest");
    }

    private static void keep() {
        HiddenPeriods x = Checks.rowOf("ab");
        Checks.same("keep(10, 0)", x.keep(10, 0), 0);
        Checks.same("keep(400, 399)", x.keep(400, 399), 1);
        Checks.same("keep(400, 0), an other phase", x.keep(400, 0), 2);
        Checks.same("keep(11, 10)", x.keep(11, 10), 3);
        Checks.same("kept", x.count(3), 4);
        Checks.same("keep saves", x.count(9), 6);
        Checks.same("tenths of 1", x.period(1, 0), 400);
        Checks.same("phase of 1", x.period(1, 1), 399);
        Checks.same("phase of 2", x.period(2, 1), 0);
        Checks.same("undo()", x.undo(), 5);
        Checks.same("kept behind undo", x.count(3), 3);
        Checks.refuses(x, "period(3, 0) behind undo", Checks.INDEX, () -> x.period(3, 0));
    }

    private static void keepRefused() {
        HiddenPeriods x = new HiddenPeriods();
        for (int tenths : new int[] {9, 401, 0, -1, Integer.MIN_VALUE, Integer.MAX_VALUE}) {
            Checks.refuses(x, "keep(" + tenths + ", 0)", Checks.ARGUMENT, () -> x.keep(tenths, 0));
        }
        for (int phase : new int[] {-1, 35, Integer.MIN_VALUE, Integer.MAX_VALUE}) {
            Checks.refuses(x, "keep(35, " + phase + ")", Checks.ARGUMENT, () -> x.keep(35, phase));
        }
        x.keep(35, 34);
        Checks.refuses(x, "keep(35, 34) again", Checks.STATE, () -> x.keep(35, 34));
        x.keep(35, 0);
        x.keep(36, 34);
        Checks.refuses(x, "keep(35, 0) again", Checks.STATE, () -> x.keep(35, 0));
        x.keep(37, 0);
        Checks.refuses(x, "a fifth", Checks.STATE, () -> x.keep(38, 0));
        Checks.refuses(x, "a fifth that is wrong", Checks.ARGUMENT, () -> x.keep(38, 38));
        x.drop(0);
        Checks.same("a fourth again, once dropped", x.keep(35, 34), 3);
    }

    private static void drop() {
        HiddenPeriods x = new HiddenPeriods();
        x.keep(20, 1);
        x.keep(30, 2);
        x.keep(40, 3);
        x.keep(50, 4);
        Checks.refuses(x, "drop(4)", Checks.INDEX, () -> x.drop(4));
        Checks.refuses(x, "drop(-1)", Checks.INDEX, () -> x.drop(-1));
        Checks.refuses(x, "drop(least)", Checks.INDEX, () -> x.drop(Integer.MIN_VALUE));
        Checks.refuses(x, "drop(greatest)", Checks.INDEX, () -> x.drop(Integer.MAX_VALUE));
        Checks.same("drop(1)", x.drop(1), 3);
        Checks.same("drop saves", x.count(9), 5);
        keptAre(x, new int[] {20, 1, 40, 3, 50, 4});
        Checks.refuses(x, "drop(3)", Checks.INDEX, () -> x.drop(3));
        Checks.same("drop(2)", x.drop(2), 2);
        keptAre(x, new int[] {20, 1, 40, 3});
        x.undo();
        x.undo();
        keptAre(x, new int[] {20, 1, 30, 2, 40, 3, 50, 4});
        Checks.same("drop(0)", x.drop(0), 3);
        keptAre(x, new int[] {30, 2, 40, 3, 50, 4});
    }

    private static void keptAre(HiddenPeriods x, int[] due) {
        Checks.same("kept", x.count(3), due.length / 2);
        for (int i = 0; i < due.length / 2 && i < x.count(3); i++) {
            Checks.same("tenths of " + i, x.period(i, 0), due[2 * i]);
            Checks.same("phase of " + i, x.period(i, 1), due[2 * i + 1]);
        }
    }

    private static void find() {
        HiddenPeriods x = Checks.rowOf("abcabcabcabc");
        Checks.same("find(30, 30)", x.find(30, 30), 30);
        Checks.same("its phase", x.period(0, 1), 0);
        Checks.same("find saves", x.count(9), 6);
        // 56 is the least of the tenths that have the places 0 to 11 at the classes 0 to 5, twice.
        Checks.same("find(40, 70)", x.find(40, 70), 56);
        Checks.same("kept", x.count(3), 2);
        Checks.same("number 1", x.period(1, 0), 56);
        Checks.same("undo()", x.undo(), 5);
        Checks.same("kept behind undo", x.count(3), 1);
    }

    private static void findRefused() {
        HiddenPeriods x = Checks.rowOf("abcabcabcabc");
        for (int from : new int[] {9, 401, -1, 0, -400, Integer.MAX_VALUE}) {
            Checks.refuses(x, "find(" + from + ", 400)", Checks.ARGUMENT, () -> x.find(from, 400));
        }
        for (int to : new int[] {29, 401, -1, Integer.MIN_VALUE, Integer.MAX_VALUE}) {
            Checks.refuses(x, "find(30, " + to + ")", Checks.ARGUMENT, () -> x.find(30, to));
        }
        x.keep(30, 5);
        Checks.same("one with an other phase does not stop it", x.find(30, 30), 30);
        Checks.refuses(x, "find(30, 33) of what is kept", Checks.STATE, () -> x.find(30, 33));
        x.keep(100, 0);
        x.keep(101, 0);
        Checks.refuses(x, "a fifth", Checks.STATE, () -> x.find(40, 50));
        Checks.refuses(x, "a fifth, from above to", Checks.ARGUMENT, () -> x.find(50, 40));
    }

    private static void mend() {
        HiddenPeriods x = Checks.rowOf("abcdabcdabddabcd");
        x.keep(40, 0);
        Checks.same("mend()", x.mend(), 1);
        Checks.same("the row", Checks.row(x), "abcdabcdabcdabcd");
        Checks.same("mend saves", x.count(9), 6);
        Checks.same("mend() again", x.mend(), 0);
        Checks.same("a mend of nothing saves", x.count(9), 6);
        x.undo();
        x.undo();
        Checks.same("the row behind undo", Checks.row(x), "abcdabcdabddabcd");
        x.set(2, 76);
        Checks.same("mend() with a class that is not strong", x.mend(), 0);
        Checks.same("the row is as it was", Checks.row(x), "abcdabcdabddabcd");
    }

    private static void mendTogether() {
        HiddenPeriods x = Checks.rowOf("aabbabab");
        x.set(2, 60);
        x.keep(40, 0);
        x.keep(20, 0);
        // The classes of 40 tenths: a a, a b, b a, b b; those of 20 tenths: a b a a, a b b b.
        Checks.same("told(0, 1)", x.told(0, 1), 0);
        Checks.same("told(1, 1)", x.told(1, 1), 1);
        Checks.same("told(2, 1)", x.told(2, 1), 1);
        Checks.same("mend()", x.mend(), 2);
        Checks.same("the row", Checks.row(x), "abababab");
    }

    // Once the place 0 is "a", 4 of 5 places are, and 10 tenths would tell the place 1; at first 3 of 5 are too few.
    private static void mendLooksAhead() {
        HiddenPeriods x = Checks.rowOf("bbaaa");
        x.set(2, 66);
        x.keep(20, 0);
        x.keep(10, 0);
        Checks.same("mend()", x.mend(), 1);
        Checks.same("the row", Checks.row(x), "abaaa");
        Checks.same("mend() again", x.mend(), 1);
        Checks.same("the row", Checks.row(x), "aaaaa");
    }

    private static void mendInWindow() {
        HiddenPeriods x = Checks.rowOf("baaabaaab");
        x.keep(10, 0);
        Checks.window(x, 1, 4);
        Checks.same("mend() in the window", x.mend(), 1);
        Checks.same("the row", Checks.row(x), "baaaaaaab");
        Checks.window(x, 7, 240);
        x.set(2, 50);
        Checks.same("mend() with the lowest of several", x.mend(), 1);
        Checks.same("the row", Checks.row(x), "baaaaaaaa");
    }

    private static void mendNothing() {
        HiddenPeriods x = Checks.rowOf("abcd");
        Checks.same("mend() without periods", x.mend(), 0);
        Checks.same("it saves", x.count(9), 5);
        x.keep(10, 0);
        Checks.window(x, 9, 5);
        Checks.same("mend() of an empty window", x.mend(), 0);
        Checks.same("the row", Checks.row(x), "abcd");
    }

    private static void set() {
        HiddenPeriods x = new HiddenPeriods();
        Checks.same("set(0, 239)", x.set(0, 239), 0);
        Checks.same("set(0, 0)", x.set(0, 0), 239);
        Checks.same("set(1, 240)", x.set(1, 240), 0);
        Checks.same("set(1, 0)", x.set(1, 0), 240);
        Checks.same("set(2, 100)", x.set(2, 100), 75);
        Checks.same("set(2, 1)", x.set(2, 1), 100);
        Checks.same("set saves", x.count(9), 6);
        Checks.same("set(2, 1) again", x.set(2, 1), 1);
        Checks.same("undo()", x.undo(), 5);
        Checks.same("undo()", x.undo(), 4);
        Checks.same("setting(2) behind undo", x.setting(2), 100);
        Checks.same("undo()", x.undo(), 3);
        Checks.same("setting(2) behind undo", x.setting(2), 75);
        Checks.same("undo()", x.undo(), 2);
        Checks.same("setting(1) behind undo", x.setting(1), 240);
    }

    private static void setRefused() {
        HiddenPeriods x = new HiddenPeriods();
        for (int setting : new int[] {-1, 3, Integer.MIN_VALUE, Integer.MAX_VALUE}) {
            Checks.refuses(x, "set(" + setting + ", 1)", Checks.INDEX, () -> x.set(setting, 1));
            Checks.refuses(x, "set(" + setting + ", -1)", Checks.INDEX, () -> x.set(setting, -1));
        }
        int[][] wrong = {{0, -1}, {0, 240}, {1, -1}, {1, 241}, {2, 0}, {2, 101}, {2, -1},
            {0, Integer.MIN_VALUE}, {1, Integer.MAX_VALUE}, {2, Integer.MAX_VALUE}};
        for (int[] pair : wrong) {
            Checks.refuses(x, "set(" + pair[0] + ", " + pair[1] + ")", Checks.ARGUMENT, () -> x.set(pair[0], pair[1]));
        }
    }
}
