import java.util.function.Consumer;
import java.util.function.Supplier;

/** The boundaries of the document's terms: undo and exceptions. */
final class UndoBoundaries {
    private UndoBoundaries() {
    }

    static void all(Sentences the) {
        the.of("Undo");
        the.sentence("Each method that is marked \"undoable\" and does not throw an exception saves the state from before it",
            UndoBoundaries::savedBefore);
        the.sentence("(also if it changes nothing)", UndoBoundaries::savedWithoutAChange);
        the.sentence("all, but the buffer and the saved states.", UndoBoundaries::allButTheBuffer);
        the.sentence("At most 6 states are saved; the oldest one is dropped first.", UndoBoundaries::sixStates);

        the.of("Exceptions");
        the.sentence("A call that throws an exception changes nothing.", UndoBoundaries::refusedCallsChangeNothing);
        the.sentence("If several exceptions apply, the one that is named first in the throws clause is thrown.",
            UndoBoundaries::theFirstException);
        the.sentence("`NONE = -1`: There is nothing to return.", UndoBoundaries::none);
    }

    // ---- undo

    private static HiddenPeriods ofAll() {
        HiddenPeriods x = Checks.textOf("abcabdabaabc");
        x.keep(30, 0);
        x.set(2, 50);
        Checks.type(x, "(bd)2");
        return x;
    }

    private static void savedBefore() {
        Checks.undoable("put", UndoBoundaries::ofAll, x -> x.put(2));
        Checks.undoable("change", UndoBoundaries::ofAll, x -> x.change(11, 0));
        Checks.undoable("cut", UndoBoundaries::ofAll, x -> x.cut(7));
        Checks.undoable("grow", UndoBoundaries::ofAll, x -> x.grow(25, 228, 3));
        Checks.undoable("keep", UndoBoundaries::ofAll, x -> x.keep(20, 3));
        Checks.undoable("drop", UndoBoundaries::ofAll, x -> x.drop(0));
        Checks.undoable("find", UndoBoundaries::ofAll, x -> x.find(40, 60));
        Checks.undoable("mend", UndoBoundaries::ofAll, x -> Checks.same("mend()", x.mend(), 2));
        Checks.undoable("set", UndoBoundaries::ofAll, x -> x.set(1, 5));
        Checks.undoable("putAll", UndoBoundaries::ofAll, x -> x.putAll());
        savesNothing("append", x -> x.append('a'));
        savesNothing("clearBuffer", x -> x.clearBuffer());
        savesNothing("firstError", x -> x.firstError());
        savesNothing("explains", x -> x.explains(20, 0));
        savesNothing("best", x -> x.best(20, 60));
        savesNothing("digest", x -> x.digest());
    }

    private static void savesNothing(String what, Consumer<HiddenPeriods> call) {
        HiddenPeriods x = ofAll();
        call.accept(x);
        Checks.same("saved states behind " + what, x.count(9), 3);
        x.undo();
        Checks.same("setting(2) behind " + what + " and undo()", x.setting(2), 75);
    }

    private static void savedWithoutAChange() {
        Checks.undoable("cut of an empty row", HiddenPeriods::new, x -> x.cut(1));
        Checks.undoable("mend of an empty row", HiddenPeriods::new, x -> x.mend());
        Checks.undoable("set to what it is", HiddenPeriods::new, x -> x.set(2, 75));
        Checks.undoable("change to what it is", UndoBoundaries::ofAll, x -> x.change(0, 0));
        Checks.undoable("mend of what is explained", () -> {
            HiddenPeriods x = ofAll();
            x.mend();
            return x;
        }, x -> Checks.same("a second mend()", x.mend(), 0));
    }

    private static void allButTheBuffer() {
        HiddenPeriods x = Checks.textOf("abcabd");
        Checks.type(x, "ab");
        x.keep(30, 7);
        x.set(0, 2);
        x.set(1, 3);
        x.set(2, 60);
        long before = x.digest();
        x.put(1);
        Checks.same("undo()", x.undo(), 5);
        Checks.same("the digest behind undo() of put", x.digest(), before);
        x.undo();
        x.undo();
        x.undo();
        x.undo();
        Checks.same("kept", x.count(3), 0);
        for (int setting = 0; setting < 3; setting++) {
            Checks.same("setting(" + setting + ")", x.setting(setting), setting == 2 ? 75 : 0);
        }
        Checks.same("the row", Checks.row(x), "abcabd");
        Checks.same("saved", x.count(9), 1);
        Checks.same("the length of the buffer", x.clearBuffer(), 2);
        // putAll clears the buffer, and undo does not fill it again.
        HiddenPeriods y = Checks.typed("abc");
        y.putAll();
        y.append('d');
        y.undo();
        Checks.same("the row", Checks.row(y), "");
        Checks.same("the length of the buffer", y.clearBuffer(), 1);
    }

    private static void sixStates() {
        for (int calls : new int[] {5, 6, 7, 8, 12, 13, 25}) {
            HiddenPeriods x = new HiddenPeriods();
            for (int i = 1; i <= calls; i++) {
                x.put(i % 4);
                Checks.same("saved behind " + i + " calls", x.count(9), Math.min(6, i));
            }
            for (int left = Math.min(6, calls) - 1; left >= 0; left--) {
                Checks.same("undo()", x.undo(), left);
                Checks.same("signs", x.count(0), left + Math.max(0, calls - 6));
                int last = x.count(0) - 1;
                Checks.same("the last one", x.sign(Math.max(0, last)), last < 0 ? -1 : x.count(0) % 4);
            }
            Checks.refuses(x, "undo() of none", Checks.STATE, () -> x.undo());
        }
        HiddenPeriods x = Checks.rowOf("abcdabcd");
        x.undo();
        x.undo();
        x.put(3);
        x.put(3);
        x.put(3);
        Checks.same("saved, 8 less 2 and 3 more", x.count(9), 6);
        for (int left = 5; left >= 0; left--) {
            x.undo();
        }
        Checks.same("the row", Checks.row(x), "abc");
    }

    // ---- exceptions

    /** All of it is full: the row, the periods, the buffer, the saved states, whose oldest one would be dropped next. */
    static HiddenPeriods full() {
        HiddenPeriods x = new HiddenPeriods();
        x.grow(30, 239, 7);
        x.keep(30, 0);
        x.keep(20, 0);
        x.keep(400, 399);
        x.set(2, 33);
        x.keep(10, 9);
        x.put(3);
        Checks.type(x, "(ab)2" + "c".repeat(55));
        return x;
    }

    private static void refusedCallsChangeNothing() {
        Supplier<HiddenPeriods> full = UndoBoundaries::full;
        Checks.same("saved states", full().count(9), 6);
        Checks.refused("put(0)", full, Checks.STATE, x -> x.put(0));
        Checks.refused("put(4)", full, Checks.ARGUMENT, x -> x.put(4));
        Checks.refused("change(240, 0)", full, Checks.INDEX, x -> x.change(240, 0));
        Checks.refused("change(0, 4)", full, Checks.ARGUMENT, x -> x.change(0, 4));
        Checks.refused("cut(0)", full, Checks.ARGUMENT, x -> x.cut(0));
        Checks.refused("cut(241)", full, Checks.ARGUMENT, x -> x.cut(241));
        Checks.refused("grow(20, 1, 0)", full, Checks.STATE, x -> x.grow(20, 1, 0));
        Checks.refused("grow(9, 1, 0)", full, Checks.ARGUMENT, x -> x.grow(9, 1, 0));
        Checks.refused("keep(11, 0)", full, Checks.STATE, x -> x.keep(11, 0));
        Checks.refused("keep(30, 0)", full, Checks.STATE, x -> x.keep(30, 0));
        Checks.refused("keep(11, 11)", full, Checks.ARGUMENT, x -> x.keep(11, 11));
        Checks.refused("drop(4)", full, Checks.INDEX, x -> x.drop(4));
        Checks.refused("drop(-1)", full, Checks.INDEX, x -> x.drop(-1));
        Checks.refused("find(40, 60)", full, Checks.STATE, x -> x.find(40, 60));
        Checks.refused("find(60, 40)", full, Checks.ARGUMENT, x -> x.find(60, 40));
        Checks.refused("set(3, 1)", full, Checks.INDEX, x -> x.set(3, 1));
        Checks.refused("set(0, 240)", full, Checks.ARGUMENT, x -> x.set(0, 240));
        Checks.refused("append(97)", full, Checks.STATE, x -> x.append(97));
        Checks.refused("append(32)", full, Checks.ARGUMENT, x -> x.append(32));
        Checks.refused("putAll()", full, Checks.STATE, x -> x.putAll());
        Checks.refused("sign(-1)", full, Checks.ARGUMENT, x -> x.sign(-1));
        Checks.refused("period(4, 0)", full, Checks.INDEX, x -> x.period(4, 0));
        Checks.refused("remainder(0, 3, 0)", full, Checks.INDEX, x -> x.remainder(0, 3, 0));
        Checks.refused("told(240, 0)", full, Checks.INDEX, x -> x.told(240, 0));
        Checks.refused("count(10)", full, Checks.ARGUMENT, x -> x.count(10));
        Checks.refused("setting(3)", full, Checks.INDEX, x -> x.setting(3));
        Checks.refused("best(60, 40)", full, Checks.ARGUMENT, x -> x.best(60, 40));
        Checks.refused("undo()", () -> Checks.typed("ab"), Checks.STATE, x -> x.undo());
        Checks.refused("putAll() of no text", () -> {
            HiddenPeriods x = ofAll();
            x.append('(');
            return x;
        }, Checks.ARGUMENT, x -> x.putAll());
    }

    private static void theFirstException() {
        Supplier<HiddenPeriods> full = UndoBoundaries::full;
        Checks.refused("put: sign and row", full, Checks.ARGUMENT, x -> x.put(-1));
        Checks.refused("change: place and sign", full, Checks.INDEX, x -> x.change(-1, 4));
        Checks.refused("grow: tenths and row", full, Checks.ARGUMENT, x -> x.grow(401, 240, 0));
        Checks.refused("grow: many and row", full, Checks.ARGUMENT, x -> x.grow(20, 241, 0));
        Checks.refused("grow: wrong and row", full, Checks.ARGUMENT, x -> x.grow(20, 240, 241));
        Checks.refused("keep: tenths and four", full, Checks.ARGUMENT, x -> x.keep(9, 0));
        Checks.refused("keep: phase and four", full, Checks.ARGUMENT, x -> x.keep(30, 30));
        Checks.refused("find: from and four", full, Checks.ARGUMENT, x -> x.find(9, 60));
        Checks.refused("find: to and four", full, Checks.ARGUMENT, x -> x.find(30, 29));
        Checks.refused("set: setting and value", full, Checks.INDEX, x -> x.set(-1, -1));
        Checks.refused("append: code and buffer", full, Checks.ARGUMENT, x -> x.append(127));
        Checks.refused("putAll: text and row", () -> {
            HiddenPeriods x = full();
            x.clearBuffer();
            Checks.type(x, "ab(");
            return x;
        }, Checks.ARGUMENT, x -> x.putAll());
        Checks.refused("period: period and what", full, Checks.INDEX, x -> x.period(4, 7));
        Checks.refused("remainder: period, class and sign", full, Checks.INDEX, x -> x.remainder(4, 99, 5));
        Checks.refused("remainder: class and sign", full, Checks.INDEX, x -> x.remainder(0, 3, 5));
        Checks.refused("told: place and what", full, Checks.INDEX, x -> x.told(240, 3));
    }

    private static void none() {
        HiddenPeriods x = new HiddenPeriods();
        Checks.same("NONE", HiddenPeriods.NONE, -1);
        Checks.same("sign(0)", x.sign(0), HiddenPeriods.NONE);
        Checks.same("count(6)", x.count(6), HiddenPeriods.NONE);
        Checks.same("bestWindow(10, 1)", x.bestWindow(10, 1), HiddenPeriods.NONE);
    }
}
