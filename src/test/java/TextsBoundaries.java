import java.util.function.Supplier;

/** The boundaries of the promises 11 to 15: append, clearBuffer, firstError, putAll and undo. */
final class TextsBoundaries {
    private TextsBoundaries() {
    }

    static void all(Sentences the) {
        the.of("Promise 11: append");
        the.sentence("Appends a character to the buffer.", TextsBoundaries::appendBehind);
        the.sentence("- `code`: the character code, 33 to 126", TextsBoundaries::appendCodes);
        the.sentence("Returns the new length of the buffer.", TextsBoundaries::appendReturns);
        the.sentence("Throws `IllegalArgumentException` if code is not 33 to 126", TextsBoundaries::appendOutOfRange);
        the.sentence("Throws `IllegalStateException` if the buffer has 60 characters", TextsBoundaries::appendFull);

        the.of("Promise 12: clearBuffer");
        the.sentence("Clears the buffer.", TextsBoundaries::clear);
        the.sentence("Returns the length that it had.", TextsBoundaries::clearReturns);

        the.of("Promise 13: firstError");
        the.sentence("Finds the first syntax error of the buffer.", TextsBoundaries::theFirstError);
        the.sentence("Returns the index of the first character that is a syntax error;", TextsBoundaries::errorIndex);
        the.sentence("the length of the buffer if there is none.", TextsBoundaries::noError);

        the.of("Promise 14: putAll");
        the.sentence("Puts the signs in the buffer behind the row, all or none,", TextsBoundaries::allOrNone);
        the.sentence("and clears the buffer.", TextsBoundaries::putAllClears);
        the.sentence("Undoable, as one call.", TextsBoundaries::putAllUndone);
        the.sentence("Returns how many signs the row has then.", TextsBoundaries::putAllReturns);
        the.sentence("Throws `IllegalArgumentException` if the buffer is not complete signs as a text",
            TextsBoundaries::putAllIncomplete);
        the.sentence("Throws `IllegalStateException` if the row would have more than 240", TextsBoundaries::putAllTooMany);

        the.of("Promise 15: undo");
        the.sentence("Restores the latest saved state, and drops it.", TextsBoundaries::undoTheLatest);
        the.sentence("Returns how many saved states are left.", TextsBoundaries::undoReturns);
        the.sentence("Throws `IllegalStateException` if there is none", TextsBoundaries::undoNone);
    }

    private static Supplier<HiddenPeriods> buffer(String text) {
        return () -> Checks.typed(text);
    }

    private static Supplier<HiddenPeriods> rowAndBuffer(int many, String text) {
        return () -> {
            HiddenPeriods x = many == 0 ? new HiddenPeriods() : Checks.rowOfMany(many);
            Checks.type(x, text);
            return x;
        };
    }

    // ---- append

    private static void appendBehind() {
        HiddenPeriods x = new HiddenPeriods();
        x.append('b');
        x.append('d');
        x.append('a');
        x.putAll();
        Checks.same("the row of what was appended", Checks.row(x), "bda");
        HiddenPeriods y = Checks.typed("a");
        long hash = y.digest();
        y.append('~');
        // The length before "a" is one more, so 31 more behind "a"; then comes the new one.
        Checks.same("the digest behind append", y.digest(), 31 * (hash + 31) + '~');
        Checks.same("append saves nothing", y.count(9), 0);
    }

    private static void appendCodes() {
        for (int code = 33; code <= 126; code++) {
            Checks.same("append(" + code + ")", new HiddenPeriods().append(code), 1);
        }
    }

    private static void appendReturns() {
        HiddenPeriods x = new HiddenPeriods();
        for (int length = 1; length <= 60; length++) {
            Checks.same("append", x.append(length % 2 == 0 ? '!' : 'a'), length);
        }
    }

    private static void appendOutOfRange() {
        for (int code : Checks.outside(33, 126)) {
            Checks.refused("append(" + code + ")", HiddenPeriods::new, Checks.ARGUMENT, x -> x.append(code));
            Checks.refused("append(" + code + ") to 60", buffer("a".repeat(60)), Checks.ARGUMENT, x -> x.append(code));
        }
        for (int code : new int[] {0, 10, 128, 256 + 'a', 65536 + 'a'}) {
            Checks.refused("append(" + code + ")", HiddenPeriods::new, Checks.ARGUMENT, x -> x.append(code));
        }
    }

    private static void appendFull() {
        Checks.same("append to 59", Checks.typed("a".repeat(59)).append('a'), 60);
        Checks.refused("append to 60", buffer("a".repeat(60)), Checks.STATE, x -> x.append('a'));
        Checks.refused("append to 60 wrong ones", buffer("~".repeat(60)), Checks.STATE, x -> x.append('~'));
    }

    // ---- clearBuffer

    private static void clear() {
        HiddenPeriods x = Checks.typed("(d)9");
        x.clearBuffer();
        Checks.same("firstError() behind it", x.firstError(), 0);
        Checks.same("digest() behind it", x.digest(), new HiddenPeriods().digest());
        x.append('c');
        Checks.same("putAll() of what comes then", x.putAll(), 1);
        Checks.same("the row", Checks.row(x), "c");
        HiddenPeriods full = Checks.typed("a".repeat(60));
        full.clearBuffer();
        Checks.same("append behind it", full.append('a'), 1);
        Checks.same("it saves nothing", full.count(9), 0);
    }

    private static void clearReturns() {
        Checks.same("clearBuffer() of none", new HiddenPeriods().clearBuffer(), 0);
        Checks.same("clearBuffer() of one", Checks.typed("!").clearBuffer(), 1);
        HiddenPeriods x = Checks.typed("a".repeat(60));
        Checks.same("clearBuffer() of 60", x.clearBuffer(), 60);
        Checks.same("clearBuffer() again", x.clearBuffer(), 0);
    }

    // ---- firstError

    private static void errorAt(String text, int due) {
        HiddenPeriods x = Checks.typed(text);
        long before = x.digest();
        Checks.same("firstError() of " + text, x.firstError(), due);
        Checks.same("the digest behind firstError() of " + text, x.digest(), before);
    }

    private static void theFirstError() {
        errorAt("a!b!", 1);
        errorAt("(a)1(a)1", 3);
        errorAt("(()", 1);
        errorAt("a)(", 1);
    }

    private static void errorIndex() {
        errorAt("2", 0);
        errorAt(")", 0);
        errorAt("a)", 1);
        errorAt("()", 1);
        errorAt("((", 1);
        errorAt("(2", 1);
        errorAt("(a(", 2);
        errorAt("(a2", 2);
        errorAt("(a)a", 3);
        errorAt("(a)(", 3);
        errorAt("(a))", 3);
        errorAt("(a)1", 3);
        errorAt("(a):", 3);
        errorAt("(a)2)", 4);
        errorAt("(a)22", 4);
        errorAt("(a)2e", 4);
        errorAt("a".repeat(59) + "e", 59);
    }

    private static void noError() {
        errorAt("", 0);
        errorAt("a", 1);
        errorAt("d", 1);
        errorAt("(", 1);
        errorAt("a(", 2);
        errorAt("(d", 2);
        errorAt("(a)", 3);
        errorAt("(a)2", 4);
        errorAt("(a)9", 4);
        errorAt("(a)9(", 5);
        errorAt("a".repeat(60), 60);
        errorAt("(" + "a".repeat(59), 60);
    }

    // ---- putAll

    private static void putAllIs(int many, String text, String due) {
        HiddenPeriods x = rowAndBuffer(many, text).get();
        x.putAll();
        Checks.same("the row behind putAll() of " + text, Checks.row(x), "a".repeat(many) + due);
    }

    private static void allOrNone() {
        putAllIs(0, "d", "d");
        putAllIs(2, "bd", "bd");
        putAllIs(2, "(bc)2d(a)9", "bcbcdaaaaaaaaa");
        putAllIs(231, "(d)9", "ddddddddd");
        Checks.refused("putAll() of 9 behind 232", rowAndBuffer(232, "(d)9"), Checks.STATE, x -> x.putAll());
        Checks.refused("putAll() with an error at the end", rowAndBuffer(2, "bcd!"), Checks.ARGUMENT, x -> x.putAll());
        HiddenPeriods x = rowAndBuffer(232, "(d)9").get();
        Checks.thrownBy(() -> x.putAll());
        Checks.same("signs behind it", x.count(0), 232);
        Checks.same("the buffer behind it", x.clearBuffer(), 4);
        Checks.same("put behind it", x.put(1), 233);
        Checks.same("sign(232)", x.sign(232), 1);
    }

    private static void putAllClears() {
        HiddenPeriods x = rowAndBuffer(3, "(d)2").get();
        x.putAll();
        Checks.same("firstError() behind it", x.firstError(), 0);
        Checks.same("clearBuffer() behind it", x.clearBuffer(), 0);
        x.append('b');
        x.putAll();
        Checks.same("the row", Checks.row(x), "aaaddb");
        HiddenPeriods y = rowAndBuffer(0, "a").get();
        y.putAll();
        Checks.refuses(y, "putAll() of what is cleared", Checks.ARGUMENT, () -> y.putAll());
    }

    private static void putAllUndone() {
        Checks.undoable("putAll() of one", rowAndBuffer(3, "d"), x -> x.putAll());
        Checks.undoable("putAll() of 60", rowAndBuffer(3, "d".repeat(60)), x -> x.putAll());
        Checks.undoable("putAll() into an empty row", rowAndBuffer(0, "(d)2(a)9"), x -> x.putAll());
    }

    private static void putAllReturns() {
        Checks.same("putAll() of one", rowAndBuffer(0, "a").get().putAll(), 1);
        Checks.same("putAll() of a group", rowAndBuffer(5, "(ab)3").get().putAll(), 11);
        Checks.same("putAll() up to 240", rowAndBuffer(235, "a(ab)2").get().putAll(), 240);
    }

    private static void putAllIncomplete() {
        String[] texts = {"", "(", "a(", "(a", "(a)", "a(bc)", "(a)2(", "()2", "(a)1", "(a)22", "e", "ae", "ea", "a)", "2",
            "(a(b)2)2", "(" + "a".repeat(59), "a".repeat(59) + "("};
        for (String text : texts) {
            Checks.refused("putAll() of " + text, buffer(text), Checks.ARGUMENT, x -> x.putAll());
            Checks.refused("putAll() of " + text + " behind 240", rowAndBuffer(240, text), Checks.ARGUMENT, x -> x.putAll());
        }
    }

    private static void putAllTooMany() {
        Checks.same("putAll() of 1 behind 239", rowAndBuffer(239, "d").get().putAll(), 240);
        Checks.refused("putAll() of 1 behind 240", rowAndBuffer(240, "d"), Checks.STATE, x -> x.putAll());
        Checks.refused("putAll() of 2 behind 239", rowAndBuffer(239, "dd"), Checks.STATE, x -> x.putAll());
        Checks.refused("putAll() of 2 behind 239, a group", rowAndBuffer(239, "(d)2"), Checks.STATE, x -> x.putAll());
        String most = "(" + "abc".repeat(10) + ")8";
        Checks.same("putAll() of 240", rowAndBuffer(0, most).get().putAll(), 240);
        Checks.refused("putAll() of 241", rowAndBuffer(0, most + "a"), Checks.STATE, x -> x.putAll());
        Checks.refused("putAll() of 513", rowAndBuffer(0, "(" + "a".repeat(57) + ")9"), Checks.STATE, x -> x.putAll());
        Checks.refused("putAll() of 513 behind 240", rowAndBuffer(240, "(" + "a".repeat(57) + ")9"), Checks.STATE,
            x -> x.putAll());
    }

    // ---- undo

    private static void undoTheLatest() {
        HiddenPeriods x = Checks.textOf("abc");
        x.put(3);
        x.cut(2);
        x.undo();
        Checks.same("the row behind undo() of cut", Checks.row(x), "abcd");
        x.undo();
        Checks.same("the row behind undo() of put", Checks.row(x), "abc");
        x.put(1);
        x.undo();
        Checks.same("the row behind undo() of an other put", Checks.row(x), "abc");
        x.undo();
        Checks.same("the row behind the last undo()", Checks.row(x), "");
        Checks.same("digest() behind it", x.digest(), new HiddenPeriods().digest());
    }

    private static void undoReturns() {
        HiddenPeriods x = Checks.rowOf("abcdabcd");
        for (int left = 5; left >= 0; left--) {
            Checks.same("undo()", x.undo(), left);
            Checks.same("count(9)", x.count(9), left);
        }
        x.put(0);
        Checks.same("undo() of the only one", x.undo(), 0);
    }

    private static void undoNone() {
        Checks.refused("undo() of a new one", HiddenPeriods::new, Checks.STATE, x -> x.undo());
        Checks.refused("undo() of none that is left", () -> {
            HiddenPeriods x = Checks.textOf("abc");
            x.put(1);
            x.undo();
            x.undo();
            x.append('a');
            return x;
        }, Checks.STATE, x -> x.undo());
        HiddenPeriods x = Checks.rowOf("abcdabcd");
        for (int i = 0; i < 6; i++) {
            x.undo();
        }
        Checks.refuses(x, "a seventh undo()", Checks.STATE, () -> x.undo());
        Checks.same("the row", Checks.row(x), "ab");
    }
}
