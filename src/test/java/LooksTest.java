/** Promises 16 to 21: sign, period, remainder, told, count and setting. */
public final class LooksTest {
    // 20 tenths: class 0 has a a a a a b, class 1 has b b b c d d: the sign of class 1 has 3 of 6.
    private static final String ROW = "abababacadbd";

    public static void main(String[] args) {
        sign();
        period();
        periodOfParts();
        periodBehindOthers();
        remainder();
        remainderRefused();
        told();
        toldByTheFirst();
        toldRefused();
        count();
        countOfWindows();
        countOfCommon();
        setting();
        strongEdges();
        looksChangeNothing();
        Checks.finish("LooksTest");
    }

    private static void sign() {
        HiddenPeriods x = Checks.rowOf("dcba");
        Checks.same("sign(0)", x.sign(0), 3);
        Checks.same("sign(3)", x.sign(3), 0);
        Checks.same("sign(4)", x.sign(4), HiddenPeriods.NONE);
        Checks.same("sign(240)", x.sign(240), HiddenPeriods.NONE);
        Checks.same("sign(greatest)", x.sign(Integer.MAX_VALUE), HiddenPeriods.NONE);
        Checks.refuses(x, "sign(-1)", Checks.ARGUMENT, () -> x.sign(-1));
        Checks.refuses(x, "sign(least)", Checks.ARGUMENT, () -> x.sign(Integer.MIN_VALUE));
        x.cut(1);
        Checks.same("sign(3) behind a cut", x.sign(3), HiddenPeriods.NONE);
    }

    private static void periodIs(HiddenPeriods x, int number, int... due) {
        for (int what = 0; what < due.length; what++) {
            Checks.same("period(" + number + ", " + what + ")", x.period(number, what), due[what]);
        }
    }

    private static void period() {
        HiddenPeriods x = Checks.rowOf(ROW);
        x.keep(20, 0);
        periodIs(x, 0, 20, 0, 2, 5 + 3, 8 - 5, 1, 6);
        x.set(2, 50);
        periodIs(x, 0, 20, 0, 2, 8, 3, 2, 12);
        Checks.window(x, 2, 5);
        periodIs(x, 0, 20, 0, 2, 5, 5 - 3, 2, 5);
        Checks.window(x, 12, 5);
        periodIs(x, 0, 20, 0, 2, 0, 0, 0, 0);
        Checks.refuses(x, "period(1, 0)", Checks.INDEX, () -> x.period(1, 0));
        Checks.refuses(x, "period(-1, 7)", Checks.INDEX, () -> x.period(-1, 7));
        Checks.refuses(x, "period(greatest, 0)", Checks.INDEX, () -> x.period(Integer.MAX_VALUE, 0));
        for (int what : new int[] {-1, 7, Integer.MIN_VALUE, Integer.MAX_VALUE}) {
            Checks.refuses(x, "period(0, " + what + ")", Checks.ARGUMENT, () -> x.period(0, what));
        }
    }

    // The numbers of classes go up behind each whole ten.
    private static void periodOfParts() {
        HiddenPeriods x = Checks.rowOf("abcab");
        x.keep(10, 9);
        x.keep(11, 0);
        x.keep(25, 7);
        x.keep(400, 0);
        periodIs(x, 0, 10, 9, 1, 2, 0, 0, 0);
        // 10 * p % 11 is 0, 10, 9, 8, 7: classes 0, 1, 0, 0, 0, of which 1 alone is strong.
        periodIs(x, 1, 11, 0, 2, 3, 1, 1, 1);
        // (10 * p + 7) % 25 is 7, 17, 2, 12, 22: classes 0, 1, 0, 1, 2.
        periodIs(x, 2, 25, 7, 3, 1 + 1 + 1, 3 - 2, 1, 1);
        periodIs(x, 3, 400, 0, 40, 5, 3, 5, 3);
    }

    private static void periodBehindOthers() {
        HiddenPeriods x = Checks.rowOf(ROW);
        x.keep(20, 0);
        x.keep(10, 0);
        x.keep(120, 0);
        x.keep(130, 0);
        periodIs(x, 0, 20, 0, 2, 8, 3, 1, 6);
        periodIs(x, 1, 10, 0, 1, 5, 0, 0, 0);
        periodIs(x, 2, 120, 0, 12, 12, 7, 12, 6);
        periodIs(x, 3, 130, 0, 13, 12, 7, 12, 0);
        x.drop(0);
        periodIs(x, 1, 120, 0, 12, 12, 7, 12, 12);
    }

    private static void remaindersAre(HiddenPeriods x, int number, int group, int... due) {
        for (int sign = 0; sign < 5; sign++) {
            Checks.same("remainder(" + number + ", " + group + ", " + sign + ")",
                x.remainder(number, group, sign), due[sign]);
        }
    }

    private static void remainder() {
        HiddenPeriods x = Checks.rowOf(ROW);
        x.keep(20, 0);
        x.keep(25, 10);
        x.keep(400, 5);
        remaindersAre(x, 0, 0, 5, 1, 0, 0, 0);
        remaindersAre(x, 0, 1, 0, 3, 1, 2, 1);
        // (10 * p + 10) % 25 is 10, 20, 5, 15, 0 again and again: classes 1, 2, 0, 1, 0.
        remaindersAre(x, 1, 0, 2, 0, 1, 1, 0);
        remaindersAre(x, 1, 1, 2, 3, 0, 0, 1);
        remaindersAre(x, 1, 2, 1, 1, 0, 1, 0);
        remaindersAre(x, 2, 11, 0, 0, 0, 1, 3);
        remaindersAre(x, 2, 12, 0, 0, 0, 0, HiddenPeriods.NONE);
        remaindersAre(x, 2, 39, 0, 0, 0, 0, HiddenPeriods.NONE);
        Checks.window(x, 9, 2);
        remaindersAre(x, 0, 0, 0, 1, 0, 0, 1);
        remaindersAre(x, 0, 1, 0, 0, 0, 1, 3);
    }

    private static void remainderRefused() {
        HiddenPeriods x = Checks.rowOf("ab");
        Checks.refuses(x, "remainder(0, 0, 0) of none", Checks.INDEX, () -> x.remainder(0, 0, 0));
        x.keep(25, 0);
        x.keep(400, 0);
        Checks.refuses(x, "remainder(-1, 0, 0)", Checks.INDEX, () -> x.remainder(-1, 0, 0));
        Checks.refuses(x, "remainder(2, 0, 9)", Checks.INDEX, () -> x.remainder(2, 0, 9));
        for (int group : new int[] {-1, 3, Integer.MIN_VALUE, Integer.MAX_VALUE}) {
            Checks.refuses(x, "remainder(0, " + group + ", 0)", Checks.INDEX, () -> x.remainder(0, group, 0));
            Checks.refuses(x, "remainder(0, " + group + ", 5)", Checks.INDEX, () -> x.remainder(0, group, 5));
        }
        Checks.refuses(x, "remainder(1, 40, 0)", Checks.INDEX, () -> x.remainder(1, 40, 0));
        for (int sign : new int[] {-1, 5, Integer.MIN_VALUE, Integer.MAX_VALUE}) {
            Checks.refuses(x, "remainder(0, 2, " + sign + ")", Checks.ARGUMENT, () -> x.remainder(0, 2, sign));
        }
    }

    private static void toldIs(HiddenPeriods x, int place, int... due) {
        for (int what = 0; what < 3; what++) {
            Checks.same("told(" + place + ", " + what + ")", x.told(place, what), due[what]);
        }
    }

    private static void told() {
        HiddenPeriods x = Checks.rowOf(ROW);
        toldIs(x, 0, -1, -1, 0);
        x.keep(20, 0);
        toldIs(x, 0, 0, 0, 1);
        toldIs(x, 1, -1, -1, 0);
        toldIs(x, 10, 0, 0, 0);
        x.set(2, 50);
        toldIs(x, 1, 1, 0, 1);
        toldIs(x, 9, 1, 0, 0);
        Checks.window(x, 2, 3);
        toldIs(x, 1, -1, -1, 0);
        toldIs(x, 2, 0, 0, 1);
        toldIs(x, 4, 0, 0, 1);
        toldIs(x, 5, -1, -1, 0);
    }

    private static void toldByTheFirst() {
        HiddenPeriods x = Checks.rowOf(ROW);
        x.keep(20, 0);
        x.keep(120, 0);
        toldIs(x, 1, 1, 1, 1);
        toldIs(x, 9, 3, 1, 1);
        toldIs(x, 10, 0, 0, 0);
        x.drop(0);
        toldIs(x, 10, 1, 0, 1);
        x.keep(20, 0);
        toldIs(x, 0, 0, 0, 1);
        toldIs(x, 10, 1, 0, 1);
    }

    private static void toldRefused() {
        HiddenPeriods x = Checks.rowOf("abc");
        x.keep(10, 0);
        for (int place : new int[] {-1, 3, 240, Integer.MIN_VALUE, Integer.MAX_VALUE}) {
            Checks.refuses(x, "told(" + place + ", 0)", Checks.INDEX, () -> x.told(place, 0));
            Checks.refuses(x, "told(" + place + ", 3)", Checks.INDEX, () -> x.told(place, 3));
        }
        for (int what : new int[] {-1, 3, Integer.MIN_VALUE, Integer.MAX_VALUE}) {
            Checks.refuses(x, "told(2, " + what + ")", Checks.ARGUMENT, () -> x.told(2, what));
        }
    }

    private static void countsAre(HiddenPeriods x, int... due) {
        for (int what = 0; what < due.length; what++) {
            Checks.same("count(" + what + ")", x.count(what), due[what]);
        }
    }

    private static void count() {
        HiddenPeriods x = Checks.rowOf(ROW);
        countsAre(x, 12, 12, 0, 0, 0, 12, 0, 5, 0, 6);
        x.keep(20, 0);
        countsAre(x, 12, 12, 0, 1, 5, 6, 0, 5, 1, 6);
        x.set(2, 50);
        countsAre(x, 12, 12, 0, 1, 8, 0, 0, 5, 7, 6);
        x.keep(120, 0);
        countsAre(x, 12, 12, 0, 2, 8, 0, 0, 5, 7, 6);
        x.set(2, 75);
        countsAre(x, 12, 12, 0, 2, 11, 0, 0, 5, 10, 6);
        HiddenPeriods y = Checks.rowOf("abaaabaaaa");
        y.keep(10, 0);
        countsAre(y, 10, 10, 0, 1, 8, 0, 0, 8, 4, 6);
        HiddenPeriods z = Checks.rowOf("ab");
        Checks.same("saved", z.count(9), 2);
        for (int what : new int[] {-1, 10, Integer.MIN_VALUE, Integer.MAX_VALUE}) {
            Checks.refuses(x, "count(" + what + ")", Checks.ARGUMENT, () -> x.count(what));
        }
    }

    private static void countOfWindows() {
        HiddenPeriods x = Checks.rowOf(ROW);
        x.set(0, 5);
        countsAre(x, 12, 12, 0);
        x.set(1, 3);
        countsAre(x, 12, 3, 5, 0, 0, 3, 0, 1, 0);
        x.set(1, 7);
        countsAre(x, 12, 7, 5);
        x.set(1, 8);
        countsAre(x, 12, 7, 5);
        x.set(0, 11);
        countsAre(x, 12, 1, 11, 0, 0, 1, 3, 1, 0);
        x.set(0, 12);
        countsAre(x, 12, 0, 12, 0, 0, 0, -1, 0, 0);
        x.set(0, 239);
        countsAre(x, 12, 0, 239, 0, 0, 0, -1, 0, 0);
        x.set(0, 0);
        x.set(1, 1);
        countsAre(x, 12, 1, 0, 0, 0, 1, 0, 1, 0);
    }

    private static void countOfCommon() {
        countsAre(Checks.rowOf("ddccb"), 5, 5, 0, 0, 0, 5, 2, 2);
        countsAre(Checks.rowOf("dd"), 2, 2, 0, 0, 0, 2, 3, 2);
        countsAre(Checks.rowOf("dcba"), 4, 4, 0, 0, 0, 4, 0, 1);
        countsAre(Checks.rowOf("bbacc"), 5, 5, 0, 0, 0, 5, 1, 2);
    }

    private static void setting() {
        HiddenPeriods x = new HiddenPeriods();
        x.set(0, 17);
        x.set(1, 33);
        x.set(2, 44);
        Checks.same("setting(0)", x.setting(0), 17);
        Checks.same("setting(1)", x.setting(1), 33);
        Checks.same("setting(2)", x.setting(2), 44);
        for (int setting : new int[] {-1, 3, Integer.MIN_VALUE, Integer.MAX_VALUE}) {
            Checks.refuses(x, "setting(" + setting + ")", Checks.INDEX, () -> x.setting(setting));
        }
    }

    // 2 of 3 are 66.67 hundredths, 3 of 4 are just 75.
    private static void strongEdges() {
        HiddenPeriods x = Checks.rowOf("aab");
        x.keep(10, 0);
        x.set(2, 66);
        toldIs(x, 0, 0, 0, 1);
        x.set(2, 67);
        toldIs(x, 0, -1, -1, 0);
        x.set(2, 75);
        x.put(0);
        toldIs(x, 2, 0, 0, 0);
        x.set(2, 100);
        Checks.same("strong classes", x.period(0, 5), 0);
        x.change(2, 0);
        Checks.same("strong classes", x.period(0, 5), 1);
    }

    private static void looksChangeNothing() {
        HiddenPeriods x = Checks.rowOf(ROW);
        x.keep(20, 0);
        x.keep(25, 3);
        Checks.type(x, "a(");
        long before = x.digest();
        x.sign(3);
        x.period(1, 5);
        x.remainder(0, 1, 4);
        x.told(2, 0);
        x.count(8);
        x.setting(1);
        x.explains(30, 2);
        x.best(10, 400);
        x.bestPhase(77);
        x.bestWindow(30, 5);
        x.share();
        x.firstError();
        Checks.same("the digest behind looks", x.digest(), before);
        Checks.same("saved", x.count(9), 6);
    }
}
