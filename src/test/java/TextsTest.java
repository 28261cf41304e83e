/** Promises 11 to 15: append, clearBuffer, firstError, putAll and undo. */
public final class TextsTest {
    public static void main(String[] args) {
        append();
        clearBuffer();
        firstError();
        putAll();
        putAllRefused();
        putAllTooMany();
        undo();
        undoLeavesTheBuffer();
        undoDropsTheOldest();
        Checks.finish("TextsTest");
    }

    private static void append() {
        HiddenPeriods x = new HiddenPeriods();
        Checks.same("append(33)", x.append(33), 1);
        Checks.same("append(126)", x.append(126), 2);
        Checks.same("append saves nothing", x.count(9), 0);
        for (int code : new int[] {32, 127, 0, -1, 256 + 97, Integer.MIN_VALUE, Integer.MAX_VALUE}) {
            Checks.refuses(x, "append(" + code + ")", Checks.ARGUMENT, () -> x.append(code));
        }
        for (int length = 3; length <= 60; length++) {
            Checks.same("append(97)", x.append(97), length);
        }
        Checks.refuses(x, "append(97) of a full buffer", Checks.STATE, () -> x.append(97));
        Checks.refuses(x, "append(32) of a full buffer", Checks.ARGUMENT, () -> x.append(32));
    }

    private static void clearBuffer() {
        HiddenPeriods x = new HiddenPeriods();
        Checks.type(x, "ab(");
        Checks.same("clearBuffer()", x.clearBuffer(), 3);
        Checks.same("clearBuffer() again", x.clearBuffer(), 0);
        Checks.same("it saves nothing", x.count(9), 0);
        Checks.same("append behind it", x.append('c'), 1);
        Checks.same("putAll() behind it", x.putAll(), 1);
        Checks.same("the row", Checks.row(x), "c");
    }

    private static void firstError() {
        errorAt("", 0);
        errorAt("a", 1);
        errorAt("abcd", 4);
        errorAt("e", 0);
        errorAt("`", 0);
        errorAt("A", 0);
        errorAt("abe", 2);
        errorAt("a2", 1);
        errorAt("2", 0);
        errorAt(")", 0);
        errorAt("a)", 1);
        errorAt("(", 1);
        errorAt("()", 1);
        errorAt("(2", 1);
        errorAt("((", 1);
        errorAt("(a", 2);
        errorAt("(abcd", 5);
        errorAt("(a(", 2);
        errorAt("(a2", 2);
        errorAt("(ae", 2);
        errorAt("(a)", 3);
        errorAt("(a)2", 4);
        errorAt("(a)9", 4);
        errorAt("(a)1", 3);
        errorAt("(a)0", 3);
        errorAt("(a):", 3);
        errorAt("(a)a", 3);
        errorAt("(a)(", 3);
        errorAt("(a))", 3);
        errorAt("(a)22", 4);
        errorAt("(a)2)", 4);
        errorAt("(a)2b(c)3(d)", 12);
        errorAt("d(cb)5a!a", 7);
        errorAt("!!", 0);
    }

    private static void errorAt(String text, int due) {
        HiddenPeriods x = new HiddenPeriods();
        Checks.type(x, text);
        Checks.same("firstError() of " + text, x.firstError(), due);
        Checks.same("firstError() of " + text + " again", x.firstError(), due);
        Checks.same("the buffer " + text + " stays", x.clearBuffer(), text.length());
    }

    private static void putAll() {
        becomes("a", "a");
        becomes("dcba", "dcba");
        becomes("(a)2", "aa");
        becomes("(abc)3", "abcabcabc");
        becomes("d(ab)2c(b)9", "dababcbbbbbbbbb");
        becomes("(ab)2(cd)3", "ababcdcdcd");
        becomes("(d)8a", "dddddddda");
        HiddenPeriods x = Checks.rowOf("cc");
        Checks.type(x, "(ab)2d");
        Checks.same("putAll() behind two", x.putAll(), 7);
        Checks.same("the row", Checks.row(x), "ccababd");
        Checks.same("the buffer is cleared", x.clearBuffer(), 0);
        Checks.same("putAll saves once", x.count(9), 3);
        x.undo();
        Checks.same("the row behind undo", Checks.row(x), "cc");
    }

    private static void becomes(String text, String due) {
        HiddenPeriods x = new HiddenPeriods();
        Checks.type(x, text);
        Checks.same("putAll() of " + text, x.putAll(), due.length());
        Checks.same("the row by " + text, Checks.row(x), due);
    }

    private static void putAllRefused() {
        for (String text : new String[] {"", "(", "(a", "(a)", "ab(", "ab(cd", "ab(cd)", "e", "ae", "a2", "()2", "(a)1",
            "(a)22", "a)", "(a(b)2)2", "(e)2", "ea"}) {
            HiddenPeriods x = Checks.rowOf("ab");
            Checks.type(x, text);
            Checks.refuses(x, "putAll() of " + text, Checks.ARGUMENT, () -> x.putAll());
            Checks.same("the row", Checks.row(x), "ab");
            Checks.same("the buffer " + text + " stays", x.clearBuffer(), text.length());
        }
    }

    private static void putAllTooMany() {
        HiddenPeriods x = new HiddenPeriods();
        x.grow(10, 232, 0);
        Checks.type(x, "(d)9");
        Checks.refuses(x, "putAll() of 9 behind 232", Checks.STATE, () -> x.putAll());
        x.cut(1);
        Checks.same("putAll() of 9 behind 231", x.putAll(), 240);
        Checks.same("the last sign", x.sign(239), 3);
        Checks.same("the last sign before them", x.sign(230), 0);
        Checks.type(x, "a");
        Checks.refuses(x, "putAll() of 1 behind 240", Checks.STATE, () -> x.putAll());
        Checks.type(x, "(");
        Checks.refuses(x, "putAll() of what is not complete behind 240", Checks.ARGUMENT, () -> x.putAll());
        HiddenPeriods y = new HiddenPeriods();
        Checks.type(y, "(" + "abcd".repeat(14) + "c)9");
        Checks.refuses(y, "putAll() of 513", Checks.STATE, () -> y.putAll());
        Checks.same("its length", y.clearBuffer(), 60);
        Checks.type(y, "(" + "abc".repeat(10) + ")8");
        Checks.same("putAll() of 240", y.putAll(), 240);
        Checks.same("its sign 238", y.sign(238), 1);
        Checks.same("its sign 239", y.sign(239), 2);
    }

    private static void undo() {
        HiddenPeriods x = new HiddenPeriods();
        Checks.refuses(x, "undo() of a new one", Checks.STATE, () -> x.undo());
        x.put(1);
        x.keep(20, 5);
        x.set(1, 7);
        Checks.same("undo() of set", x.undo(), 2);
        Checks.same("setting(1)", x.setting(1), 0);
        Checks.same("kept", x.count(3), 1);
        Checks.same("undo() of keep", x.undo(), 1);
        Checks.same("kept", x.count(3), 0);
        Checks.same("signs", x.count(0), 1);
        Checks.same("undo() of put", x.undo(), 0);
        Checks.same("signs", x.count(0), 0);
        Checks.refuses(x, "undo() of nothing", Checks.STATE, () -> x.undo());
        x.put(2);
        Checks.same("undo() behind undos", x.undo(), 0);
    }

    private static void undoLeavesTheBuffer() {
        HiddenPeriods x = new HiddenPeriods();
        Checks.type(x, "ab");
        x.putAll();
        Checks.type(x, "c");
        x.undo();
        Checks.same("the row", Checks.row(x), "");
        Checks.same("the buffer", x.clearBuffer(), 1);
    }

    private static void undoDropsTheOldest() {
        HiddenPeriods x = Checks.rowOf("abcdabcda");
        Checks.same("saved", x.count(9), 6);
        for (int left = 5; left >= 0; left--) {
            Checks.same("undo()", x.undo(), left);
            Checks.same("signs", x.count(0), 3 + left);
        }
        Checks.same("the row", Checks.row(x), "abc");
        Checks.refuses(x, "a seventh undo()", Checks.STATE, () -> x.undo());
        x.put(3);
        x.put(3);
        Checks.same("undo()", x.undo(), 1);
        Checks.same("the row", Checks.row(x), "abcd");
    }
}
