/** Promises 22 to 27: explains, best, bestPhase, bestWindow, share and digest. */
public final class WouldBeTest {
    public static void main(String[] args) {
        explains();
        explainsRefused();
        best();
        bestRefused();
        bestPhase();
        bestWindow();
        bestWindowRefused();
        share();
        digestOfNew();
        digestOfMuch();
        Checks.finish("WouldBeTest");
    }

    private static void explains() {
        HiddenPeriods x = Checks.rowOf("abcabcabd");
        Checks.same("explains(10, 0)", x.explains(10, 0), 3);
        Checks.same("explains(30, 0)", x.explains(30, 0), 8);
        Checks.same("explains(30, 15)", x.explains(30, 15), 8);
        Checks.same("explains(60, 0)", x.explains(60, 0), 8);
        Checks.same("explains(90, 89)", x.explains(90, 89), 9);
        Checks.same("explains(400, 399)", x.explains(400, 399), 9);
        // (10 * p + 20) % 25 is 20, 5, 15, 0, 10 again and again: classes 2, 0, 1, 0, 1.
        Checks.same("explains(25, 20)", x.explains(25, 20), 2 + 2 + 1);
        Checks.window(x, 3, 4);
        Checks.same("explains(10, 0) of the window", x.explains(10, 0), 2);
        Checks.window(x, 9, 4);
        Checks.same("explains(10, 0) of an empty window", x.explains(10, 0), 0);
        Checks.same("nothing is kept", x.count(3), 0);
    }

    private static void explainsRefused() {
        HiddenPeriods x = Checks.rowOf("ab");
        for (int tenths : new int[] {9, 401, 0, -1, Integer.MIN_VALUE, Integer.MAX_VALUE}) {
            Checks.refuses(x, "explains(" + tenths + ", 0)", Checks.ARGUMENT, () -> x.explains(tenths, 0));
        }
        for (int phase : new int[] {-1, 20, Integer.MIN_VALUE, Integer.MAX_VALUE}) {
            Checks.refuses(x, "explains(20, " + phase + ")", Checks.ARGUMENT, () -> x.explains(20, phase));
        }
    }

    private static void best() {
        HiddenPeriods x = Checks.rowOf("abcabcabcabc");
        // 28 is the least of the tenths whose drift of 2 leaves the places 0 to 11 at the classes 0 to 2 in turn.
        Checks.same("best(10, 400)", x.best(10, 400), 28);
        Checks.same("best(30, 400)", x.best(30, 400), 30);
        Checks.same("best(10, 10)", x.best(10, 10), 10);
        Checks.same("best(400, 400)", x.best(400, 400), 400);
        Checks.same("best(40, 400)", x.best(40, 400), 56);
        // All of 120 to 400 explain each place: the fewest classes, of several the least tenths.
        Checks.same("best(121, 400)", x.best(121, 400), 121);
        HiddenPeriods y = Checks.rowOf("ab");
        // 10 tenths: 4 * 1 - 1; 11 tenths: 4 * 2 - 2.
        Checks.same("best(10, 400) of two", y.best(10, 400), 11);
        Checks.same("best(10, 11) of two", y.best(10, 11), 11);
        // 10 tenths: 4 * 3 - 1; 31 tenths are the least that explain all: 4 * 4 - 4.
        Checks.same("best(10, 400) of aaab", Checks.rowOf("aaab").best(10, 400), 31);
        // 10 tenths: 4 * 4 - 1; 41 tenths are the least that explain all: 4 * 5 - 5, which is no more.
        Checks.same("best(10, 400) of aaaab", Checks.rowOf("aaaab").best(10, 400), 10);
        HiddenPeriods one = Checks.rowOf("c");
        Checks.same("best(10, 400) of one", one.best(10, 400), 10);
        Checks.same("best(11, 400) of one", one.best(11, 400), 11);
        Checks.same("best(15, 400) of none", new HiddenPeriods().best(15, 400), 15);
        Checks.window(x, 0, 1);
        Checks.same("best(10, 400) of a window", x.best(10, 400), 10);
        HiddenPeriods drifting = new HiddenPeriods();
        drifting.grow(37, 200, 0);
        Checks.same("best(20, 60) of a drift", drifting.best(20, 60), 37);
        Checks.same("nothing is kept", drifting.count(3), 0);
    }

    private static void bestRefused() {
        HiddenPeriods x = Checks.rowOf("ab");
        for (int from : new int[] {9, 401, -1, 0, -400, Integer.MAX_VALUE}) {
            Checks.refuses(x, "best(" + from + ", 400)", Checks.ARGUMENT, () -> x.best(from, 400));
        }
        for (int to : new int[] {19, 401, -1, Integer.MIN_VALUE, Integer.MAX_VALUE}) {
            Checks.refuses(x, "best(20, " + to + ")", Checks.ARGUMENT, () -> x.best(20, to));
        }
    }

    // 15 tenths have the classes 0 1 0 from the phases 0 to 4, 0 0 1 from 5 to 9, 1 0 0 from 10 to 14.
    private static void bestPhase() {
        HiddenPeriods x = Checks.rowOf("aabaab");
        Checks.same("bestPhase(15) of aab", x.bestPhase(15), 5);
        Checks.same("bestPhase(15) of baa", Checks.rowOf("baabaa").bestPhase(15), 10);
        Checks.same("bestPhase(15) of aba", Checks.rowOf("abaaba").bestPhase(15), 0);
        // 11 tenths have the class 1 at each 11th place; from the phase 10 at 0, from 6 at 7.
        String ten = "aaaaaaaaaa";
        Checks.same("bestPhase(11), the last", Checks.rowOf("b" + ten + "b" + ten).bestPhase(11), 10);
        Checks.same("bestPhase(11) in between", Checks.rowOf("aaaaaaab" + ten + "ba").bestPhase(11), 6);
        Checks.same("bestPhase(10)", x.bestPhase(10), 0);
        Checks.same("bestPhase(400)", x.bestPhase(400), 0);
        Checks.same("bestPhase(400) of none", new HiddenPeriods().bestPhase(400), 0);
        for (int tenths : new int[] {9, 401, 0, -1, Integer.MIN_VALUE, Integer.MAX_VALUE}) {
            Checks.refuses(x, "bestPhase(" + tenths + ")", Checks.ARGUMENT, () -> x.bestPhase(tenths));
        }
        HiddenPeriods y = Checks.rowOf("aabaab" + "cbabaabaa");
        Checks.window(y, 9, 6);
        Checks.same("bestPhase(15) of a window", y.bestPhase(15), 10);
    }

    private static void bestWindow() {
        HiddenPeriods x = Checks.rowOf("ddbcabababcd");
        Checks.same("bestWindow(20, 6)", x.bestWindow(20, 6), 4);
        Checks.same("bestWindow(20, 3)", x.bestWindow(20, 3), 4);
        Checks.same("bestWindow(20, 2)", x.bestWindow(20, 2), 0);
        Checks.same("bestWindow(10, 2)", x.bestWindow(10, 2), 0);
        Checks.same("bestWindow(10, 1)", x.bestWindow(10, 1), 0);
        Checks.same("bestWindow(20, 12)", x.bestWindow(20, 12), 0);
        Checks.same("bestWindow(20, 13)", x.bestWindow(20, 13), HiddenPeriods.NONE);
        Checks.same("bestWindow(20, 240)", x.bestWindow(20, 240), HiddenPeriods.NONE);
        Checks.window(x, 0, 2);
        Checks.same("bestWindow(20, 6) is of the whole row", x.bestWindow(20, 6), 4);
        Checks.same("bestWindow(10, 1) of none", new HiddenPeriods().bestWindow(10, 1), HiddenPeriods.NONE);
        // 25 tenths from the places 0 and 1 on: classes 0 1 2 0, with a b a c, and 1 2 0 1, with b a c b.
        Checks.same("bestWindow(25, 4)", Checks.rowOf("abacb").bestWindow(25, 4), 1);
        // The last window is one of them.
        Checks.same("bestWindow(10, 3)", Checks.rowOf("abcddd").bestWindow(10, 3), 3);
        Checks.same("setting(1) stays", x.setting(1), 2);
    }

    private static void bestWindowRefused() {
        HiddenPeriods x = Checks.rowOf("ab");
        for (int tenths : new int[] {9, 401, 0, -1, Integer.MIN_VALUE, Integer.MAX_VALUE}) {
            Checks.refuses(x, "bestWindow(" + tenths + ", 1)", Checks.ARGUMENT, () -> x.bestWindow(tenths, 1));
        }
        for (int places : new int[] {0, 241, -1, Integer.MIN_VALUE, Integer.MAX_VALUE}) {
            Checks.refuses(x, "bestWindow(20, " + places + ")", Checks.ARGUMENT, () -> x.bestWindow(20, places));
        }
    }

    private static void share() {
        HiddenPeriods x = Checks.rowOf("aab");
        Checks.same("share() without periods", x.share(), 0.0);
        x.keep(10, 0);
        x.set(2, 60);
        Checks.same("share()", x.share(), 2.0 / 3.0);
        x.keep(20, 0);
        x.set(2, 100);
        // 20 tenths: class 0 has a b, class 1 has a.
        Checks.same("share() of one place", x.share(), 1.0 / 3.0);
        Checks.window(x, 1, 1);
        Checks.same("share() of a window", x.share(), 1.0);
        x.set(0, 3);
        Checks.same("share() of an empty window", x.share(), 1.0);
        HiddenPeriods y = Checks.rowOf("a");
        Checks.same("share() of one place without periods", y.share(), 0.0);
    }

    private static void digestOfNew() {
        long hash = 2953;
        int[] values = {0, 0, 0, 0, 0, 0, -1, 0, 0, 0, 0, 0, 75, 20, 0, -1};
        for (int value : values) {
            hash = 31 * hash + value;
        }
        hash = 31 * hash + 0x3ff0000000000000L;
        hash = 31 * hash;
        HiddenPeriods x = new HiddenPeriods();
        Checks.same("digest() of a new one", x.digest(), hash);
        x.append('~');
        long longer = 31 * (hash + 1) + '~';
        Checks.same("digest() with a buffer", x.digest(), longer);
    }

    private static void digestOfMuch() {
        HiddenPeriods x = new HiddenPeriods();
        x.grow(35, 60, 7);
        x.grow(23, 60, 5);
        Checks.same("digest() of a row", x.digest(), Model.digestByLooks(x, ""));
        x.keep(35, 0);
        x.keep(23, 22);
        x.keep(400, 1);
        Checks.same("digest() of periods", x.digest(), Model.digestByLooks(x, ""));
        Checks.window(x, 10, 50);
        Checks.type(x, "a(b!");
        Checks.same("digest() of a window and a text", x.digest(), Model.digestByLooks(x, "a(b!"));
        x.cut(101);
        Checks.same("digest() of 19 signs", x.digest(), Model.digestByLooks(x, "a(b!"));
        grownDigest(59);
        grownDigest(60);
        grownDigest(61);
        x.cut(13);
        Checks.same("digest() of an empty window", x.digest(), Model.digestByLooks(x, "a(b!"));
    }

    private static void grownDigest(int tenths) {
        HiddenPeriods x = new HiddenPeriods();
        x.grow(tenths, 240, 0);
        Checks.same("digest() of what grew by " + tenths, x.digest(), Model.digestByLooks(x, ""));
    }
}
