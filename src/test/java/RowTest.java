/** Promises 1 to 5: a new object, put, change, cut and grow. */
public final class RowTest {
    public static void main(String[] args) {
        newObject();
        twoObjects();
        put();
        change();
        cut();
        growSigns();
        growWrong();
        growRefused();
        Checks.finish("RowTest");
    }

    private static void newObject() {
        HiddenPeriods x = new HiddenPeriods();
        for (int what = 0; what < 10; what++) {
            Checks.same("new: count(" + what + ")", x.count(what), what == 6 ? -1 : 0);
        }
        Checks.same("new: setting(0)", x.setting(0), 0);
        Checks.same("new: setting(1)", x.setting(1), 0);
        Checks.same("new: setting(2)", x.setting(2), 75);
        Checks.same("new: sign(0)", x.sign(0), HiddenPeriods.NONE);
        Checks.same("new: firstError()", x.firstError(), 0);
        Checks.same("new: clearBuffer()", x.clearBuffer(), 0);
        Checks.same("new: share()", x.share(), 1.0);
        Checks.refuses(x, "new: undo()", Checks.STATE, () -> x.undo());
        Checks.refuses(x, "new: drop(0)", Checks.INDEX, () -> x.drop(0));
        Checks.same("NONE", HiddenPeriods.NONE, -1);
    }

    private static void twoObjects() {
        HiddenPeriods one = Checks.rowOf("abc");
        HiddenPeriods other = new HiddenPeriods();
        one.keep(20, 0);
        one.append('a');
        one.set(2, 10);
        Checks.same("other: digest()", other.digest(), new HiddenPeriods().digest());
        Checks.same("one: count(0)", one.count(0), 3);
    }

    private static void put() {
        HiddenPeriods x = new HiddenPeriods();
        Checks.same("put(3)", x.put(3), 1);
        Checks.same("put(0)", x.put(0), 2);
        Checks.same("put(1)", x.put(1), 3);
        Checks.same("put(2)", x.put(2), 4);
        Checks.same("the row", Checks.row(x), "dabc");
        Checks.same("put saves", x.count(9), 4);
        Checks.same("undo()", x.undo(), 3);
        Checks.same("the row behind undo", Checks.row(x), "dab");
        for (int sign : new int[] {-1, 4, 97, Integer.MIN_VALUE, Integer.MAX_VALUE}) {
            Checks.refuses(x, "put(" + sign + ")", Checks.ARGUMENT, () -> x.put(sign));
        }
        x.grow(10, 236, 0);
        Checks.same("the last put", x.put(3), 240);
        Checks.same("the last sign", x.sign(239), 3);
        Checks.refuses(x, "put(0) of a full row", Checks.STATE, () -> x.put(0));
        Checks.refuses(x, "put(4) of a full row", Checks.ARGUMENT, () -> x.put(4));
        Checks.refuses(x, "put(-1) of a full row", Checks.ARGUMENT, () -> x.put(-1));
    }

    private static void change() {
        HiddenPeriods x = Checks.rowOf("abcd");
        Checks.same("change(0, 3)", x.change(0, 3), 0);
        Checks.same("change(3, 0)", x.change(3, 0), 3);
        Checks.same("the row", Checks.row(x), "dbca");
        Checks.same("change saves", x.count(9), 6);
        x.undo();
        Checks.same("the row behind undo", Checks.row(x), "dbcd");
        Checks.same("change(2, 2)", x.change(2, 2), 2);
        Checks.same("a change to the same saves", x.count(9), 6);
        for (int place : new int[] {-1, 4, 240, Integer.MIN_VALUE, Integer.MAX_VALUE}) {
            Checks.refuses(x, "change(" + place + ", 0)", Checks.INDEX, () -> x.change(place, 0));
            Checks.refuses(x, "change(" + place + ", 4)", Checks.INDEX, () -> x.change(place, 4));
        }
        for (int sign : new int[] {-1, 4, Integer.MIN_VALUE, Integer.MAX_VALUE}) {
            Checks.refuses(x, "change(3, " + sign + ")", Checks.ARGUMENT, () -> x.change(3, sign));
        }
        x.cut(1);
        Checks.refuses(x, "change(3, 0) behind a cut", Checks.INDEX, () -> x.change(3, 0));
    }

    private static void cut() {
        HiddenPeriods x = Checks.rowOf("abcdab");
        Checks.same("cut(1)", x.cut(1), 5);
        Checks.same("cut(2)", x.cut(2), 3);
        Checks.same("the row", Checks.row(x), "abc");
        Checks.same("sign(3)", x.sign(3), HiddenPeriods.NONE);
        Checks.same("cut(3), all", x.cut(3), 0);
        x.undo();
        Checks.same("cut(240), more than there are", x.cut(240), 0);
        Checks.same("cut(1) of an empty row", x.cut(1), 0);
        Checks.same("cut saves", x.count(9), 6);
        x.undo();
        x.undo();
        Checks.same("the row behind undo", Checks.row(x), "abc");
        for (int many : new int[] {0, -1, 241, Integer.MIN_VALUE, Integer.MAX_VALUE}) {
            Checks.refuses(x, "cut(" + many + ")", Checks.ARGUMENT, () -> x.cut(many));
        }
    }

    private static void growSigns() {
        grown("10 tenths", new HiddenPeriods(), 10, 4, 0, "aaaa");
        grown("11 tenths", new HiddenPeriods(), 11, 13, 0, "abaaaaaaaaaab");
        grown("20 tenths", new HiddenPeriods(), 20, 5, 0, "ababa");
        grown("25 tenths", new HiddenPeriods(), 25, 11, 0, "abcababcaba");
        grown("60 tenths", new HiddenPeriods(), 60, 13, 0, "abcdababcdaba");
        grown("400 tenths", new HiddenPeriods(), 400, 10, 0, "abcdabcdab");
        grown("30 tenths, behind two", Checks.rowOf("dd"), 30, 5, 0, "ddcabca");
        grown("one sign", Checks.rowOf("d"), 20, 1, 0, "db");
        HiddenPeriods x = Checks.rowOf("cc");
        x.grow(20, 7, 0);
        Checks.same("grow saves once", x.count(9), 3);
        x.undo();
        Checks.same("the row behind undo", Checks.row(x), "cc");
        Checks.same("grow to 240", x.grow(10, 238, 0), 240);
    }

    private static void growWrong() {
        grown("each is wrong", new HiddenPeriods(), 40, 6, 1, "bcdabc");
        grown("each third is wrong", new HiddenPeriods(), 40, 8, 3, "bbcaabdd");
        grown("the places count from the row's begin", Checks.rowOf("d"), 20, 6, 3, "dbacabb");
        grown("240: the first one alone", new HiddenPeriods(), 10, 5, 240, "baaaa");
        HiddenPeriods full = new HiddenPeriods();
        Checks.same("grow(10, 240, 239)", full.grow(10, 240, 239), 240);
        Checks.same("its sign 238", full.sign(238), 0);
        Checks.same("its sign 239", full.sign(239), 1);
        Checks.same("its sign 0", full.sign(0), 1);
    }

    private static void grown(String what, HiddenPeriods x, int tenths, int many, int wrong, String due) {
        Checks.same("grow by " + what, x.grow(tenths, many, wrong), due.length());
        Checks.same("the row by " + what, Checks.row(x), due);
    }

    private static void growRefused() {
        HiddenPeriods x = Checks.rowOf("ab");
        for (int tenths : new int[] {9, 401, 0, -10, Integer.MIN_VALUE, Integer.MAX_VALUE}) {
            Checks.refuses(x, "grow(" + tenths + ", 1, 0)", Checks.ARGUMENT, () -> x.grow(tenths, 1, 0));
            Checks.refuses(x, "grow(" + tenths + ", 240, 0)", Checks.ARGUMENT, () -> x.grow(tenths, 240, 0));
        }
        for (int many : new int[] {0, -1, 241, Integer.MIN_VALUE, Integer.MAX_VALUE}) {
            Checks.refuses(x, "grow(10, " + many + ", 0)", Checks.ARGUMENT, () -> x.grow(10, many, 0));
        }
        for (int wrong : new int[] {-1, 241, Integer.MIN_VALUE, Integer.MAX_VALUE}) {
            Checks.refuses(x, "grow(10, 1, " + wrong + ")", Checks.ARGUMENT, () -> x.grow(10, 1, wrong));
            Checks.refuses(x, "grow(10, 239, " + wrong + ")", Checks.ARGUMENT, () -> x.grow(10, 239, wrong));
        }
        Checks.refuses(x, "grow(10, 239, 0)", Checks.STATE, () -> x.grow(10, 239, 0));
        Checks.refuses(x, "grow(10, 240, 0)", Checks.STATE, () -> x.grow(10, 240, 0));
    }
}
