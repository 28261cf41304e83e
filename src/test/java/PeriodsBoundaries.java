import java.util.function.Supplier;

/** The boundaries of the promises 6 to 10: keep, drop, find, mend and set. */
final class PeriodsBoundaries {
    private static final Supplier<HiddenPeriods> FOUR_KEPT = () -> kept(20, 1, 30, 2, 40, 3, 50, 4);

    private PeriodsBoundaries() {
    }

    static void all(Sentences the) {
        the.of("Promise 6: keep");
        the.sentence("Keeps a period. Undoable.", PeriodsBoundaries::keepOne);
        the.sentence("- `tenths`: 10 to 400", PeriodsBoundaries::keepTenths);
        the.sentence("- `phase`: 0 to tenths - 1", PeriodsBoundaries::keepPhases);
        the.sentence("Returns its number.", PeriodsBoundaries::keepReturns);
        the.sentence("Throws `IllegalArgumentException` if tenths or phase is out of range", PeriodsBoundaries::keepOutOfRange);
        the.sentence("Throws `IllegalStateException` if 4 are kept,", PeriodsBoundaries::keepFull);
        the.sentence("or one with these tenths and this phase is", PeriodsBoundaries::keepAgain);

        the.of("Promise 7: drop");
        the.sentence("Drops a kept period. Undoable.", PeriodsBoundaries::dropOne);
        the.sentence("- `period`: its number", PeriodsBoundaries::dropNumbers);
        the.sentence("Returns how many are kept then.", PeriodsBoundaries::dropReturns);
        the.sentence("Throws `IndexOutOfBoundsException` if there is no such period", PeriodsBoundaries::dropNone);

        the.of("Promise 8: find");
        the.sentence("Finds the best period among some, and keeps it, with the phase 0: by best(). Undoable.",
            PeriodsBoundaries::findByBest);
        the.sentence("- `from`: the least tenths, 10 to 400", PeriodsBoundaries::findFrom);
        the.sentence("- `to`: the greatest tenths, from to 400", PeriodsBoundaries::findTo);
        the.sentence("Returns its tenths.", PeriodsBoundaries::findReturns);
        the.sentence("Throws `IllegalArgumentException` if from or to is out of range", PeriodsBoundaries::findOutOfRange);
        the.sentence("Throws `IllegalStateException` if 4 are kept,", PeriodsBoundaries::findFull);
        the.sentence("or the one that is found is", PeriodsBoundaries::findKept);

        the.of("Promise 9: mend");
        the.sentence("Changes each sign of the window that is not explained by the kept periods together,",
            PeriodsBoundaries::mendOfTheWindow);
        the.sentence("but of which one has a strong class, to the sign by which it would be.", PeriodsBoundaries::mendStrong);
        the.sentence("(All are looked at ahead of the changes.)", PeriodsBoundaries::mendLooksAhead);
        the.sentence("Undoable.", PeriodsBoundaries::mendUndone);
        the.sentence("Returns how many.", PeriodsBoundaries::mendReturns);

        the.of("Promise 10: set");
        the.sentence("Changes a setting. Undoable.", PeriodsBoundaries::setOne);
        the.sentence("- `setting`: 0 to 2", PeriodsBoundaries::setSettings);
        the.sentence("- `value`: the new value", PeriodsBoundaries::setValues);
        the.sentence("Returns the previous value.", PeriodsBoundaries::setReturns);
        the.sentence("Throws `IndexOutOfBoundsException` if there is no such setting", PeriodsBoundaries::setNoSetting);
        the.sentence("Throws `IllegalArgumentException` if value is out of range", PeriodsBoundaries::setOutOfRange);
    }

    /** A row of six signs, and periods: their tenths and phases by turns. */
    private static HiddenPeriods kept(int... pairs) {
        HiddenPeriods x = Checks.textOf("abcabd");
        for (int i = 0; i < pairs.length; i += 2) {
            x.keep(pairs[i], pairs[i + 1]);
        }
        return x;
    }

    private static void keptAre(HiddenPeriods x, int... pairs) {
        Checks.same("kept", x.count(3), pairs.length / 2);
        for (int number = 0; number < pairs.length / 2 && number < x.count(3); number++) {
            Checks.same("the tenths of the number " + number, x.period(number, 0), pairs[2 * number]);
            Checks.same("the phase of the number " + number, x.period(number, 1), pairs[2 * number + 1]);
        }
    }

    // ---- keep

    private static void keepOne() {
        HiddenPeriods x = kept();
        x.keep(25, 24);
        keptAre(x, 25, 24);
        x.keep(10, 0);
        keptAre(x, 25, 24, 10, 0);
        Checks.undoable("keep of the first one", () -> kept(), y -> y.keep(20, 0));
        Checks.undoable("keep of the fourth one", () -> kept(20, 0, 30, 0, 40, 0), y -> y.keep(50, 49));
    }

    private static void keepTenths() {
        Checks.same("keep(10, 0)", kept().keep(10, 0), 0);
        Checks.same("keep(400, 0)", kept().keep(400, 0), 0);
    }

    private static void keepPhases() {
        keptAre(kept(10, 0, 10, 9), 10, 0, 10, 9);
        keptAre(kept(25, 0, 25, 24), 25, 0, 25, 24);
        keptAre(kept(400, 0, 400, 399), 400, 0, 400, 399);
    }

    private static void keepReturns() {
        HiddenPeriods x = kept();
        for (int number = 0; number < 4; number++) {
            Checks.same("keep, the number " + number, x.keep(20 + number, number), number);
        }
        x.drop(1);
        Checks.same("keep behind a drop", x.keep(99, 0), 3);
    }

    private static void keepOutOfRange() {
        for (int tenths : Checks.outside(10, 400)) {
            Checks.refused("keep(" + tenths + ", 0)", () -> kept(), Checks.ARGUMENT, x -> x.keep(tenths, 0));
            Checks.refused("keep(" + tenths + ", 0) behind four", FOUR_KEPT, Checks.ARGUMENT, x -> x.keep(tenths, 0));
        }
        for (int tenths : new int[] {10, 25, 400}) {
            for (int phase : Checks.outside(0, tenths - 1)) {
                String what = "keep(" + tenths + ", " + phase + ")";
                Checks.refused(what, () -> kept(), Checks.ARGUMENT, x -> x.keep(tenths, phase));
                Checks.refused(what + " behind four", FOUR_KEPT, Checks.ARGUMENT, x -> x.keep(tenths, phase));
            }
        }
    }

    private static void keepFull() {
        Checks.same("a fourth one", kept(20, 1, 30, 2, 40, 3).keep(50, 4), 3);
        Checks.refused("a fifth one", FOUR_KEPT, Checks.STATE, x -> x.keep(60, 5));
        Checks.refused("a fifth one that is kept", FOUR_KEPT, Checks.STATE, x -> x.keep(20, 1));
        HiddenPeriods x = FOUR_KEPT.get();
        x.drop(3);
        Checks.same("a fourth one behind a drop", x.keep(60, 5), 3);
    }

    private static void keepAgain() {
        Supplier<HiddenPeriods> three = () -> kept(20, 1, 30, 2, 40, 3);
        Checks.refused("keep(20, 1), the first one, again", three, Checks.STATE, x -> x.keep(20, 1));
        Checks.refused("keep(30, 2) again", three, Checks.STATE, x -> x.keep(30, 2));
        Checks.refused("keep(40, 3), the last one, again", three, Checks.STATE, x -> x.keep(40, 3));
        Checks.same("keep(20, 2), an other phase", three.get().keep(20, 2), 3);
        Checks.same("keep(31, 2), other tenths", three.get().keep(31, 2), 3);
        Checks.same("keep(20, 3), of two", three.get().keep(20, 3), 3);
        HiddenPeriods x = three.get();
        x.drop(0);
        Checks.same("keep(20, 1) behind its drop", x.keep(20, 1), 2);
        HiddenPeriods y = three.get();
        y.undo();
        Checks.same("keep(40, 3) behind its undo()", y.keep(40, 3), 2);
        HiddenPeriods z = FOUR_KEPT.get();
        z.drop(3);
        Checks.same("keep(50, 4), the last one, behind its drop", z.keep(50, 4), 3);
        Checks.refused("keep(30, 0) of what was found", () -> afterFind(kept()), Checks.STATE, w -> w.keep(30, 0));
    }

    // ---- drop

    private static void dropOne() {
        HiddenPeriods x = FOUR_KEPT.get();
        x.drop(0);
        keptAre(x, 30, 2, 40, 3, 50, 4);
        x.drop(2);
        keptAre(x, 30, 2, 40, 3);
        x.drop(0);
        x.drop(0);
        keptAre(x);
        HiddenPeriods told = kept(60, 0);
        Checks.same("explained before the drop", told.count(4), 6);
        told.drop(0);
        Checks.same("explained behind the drop", told.count(4), 0);
        Checks.same("told(0, 1) behind the drop", told.told(0, 1), -1);
        Checks.undoable("drop of the only one", () -> kept(20, 1), y -> y.drop(0));
        for (int number = 0; number < 4; number++) {
            int each = number;
            Checks.undoable("drop(" + number + ") of four", FOUR_KEPT, y -> y.drop(each));
        }
    }

    private static void dropNumbers() {
        HiddenPeriods first = FOUR_KEPT.get();
        first.drop(0);
        keptAre(first, 30, 2, 40, 3, 50, 4);
        HiddenPeriods inner = FOUR_KEPT.get();
        inner.drop(1);
        keptAre(inner, 20, 1, 40, 3, 50, 4);
        HiddenPeriods last = FOUR_KEPT.get();
        last.drop(3);
        keptAre(last, 20, 1, 30, 2, 40, 3);
    }

    private static void dropReturns() {
        HiddenPeriods x = FOUR_KEPT.get();
        for (int left = 3; left >= 0; left--) {
            Checks.same("drop(0)", x.drop(0), left);
        }
    }

    private static void dropNone() {
        Checks.refused("drop(0) of none", () -> kept(), Checks.INDEX, x -> x.drop(0));
        for (int number : Checks.outside(0, 1)) {
            Checks.refused("drop(" + number + ") of two", () -> kept(20, 1, 30, 2), Checks.INDEX, x -> x.drop(number));
        }
        for (int number : Checks.outside(0, 3)) {
            Checks.refused("drop(" + number + ") of four", FOUR_KEPT, Checks.INDEX, x -> x.drop(number));
        }
        Checks.refused("drop(1) behind a drop", () -> {
            HiddenPeriods x = kept(20, 1, 30, 2);
            x.drop(0);
            return x;
        }, Checks.INDEX, x -> x.drop(1));
    }

    // ---- find

    private static void findByBest() {
        // 28 is the least of the tenths whose drift of 2 leaves the places 0 to 11 at the classes 0 to 2 in turn.
        HiddenPeriods x = Checks.textOf("(abc)4");
        Checks.same("best(10, 400)", x.best(10, 400), 28);
        Checks.same("find(10, 400)", x.find(10, 400), 28);
        keptAre(x, 28, 0);
        Checks.same("find(29, 400)", x.find(29, 400), 29);
        keptAre(x, 28, 0, 29, 0);
        HiddenPeriods none = new HiddenPeriods();
        Checks.same("find(25, 400) of an empty row", none.find(25, 400), 25);
        HiddenPeriods y = Checks.textOf("(abc)4(ab)4");
        Checks.window(y, 12, 8);
        Checks.same("find(10, 400) of a window", y.find(10, 400), y.best(10, 400));
        Checks.undoable("find", () -> kept(), z -> z.find(10, 400));
        Checks.undoable("find of the fourth", () -> kept(20, 1, 30, 2, 40, 3), z -> z.find(20, 60));
    }

    private static void findFrom() {
        Checks.same("find(10, 10)", kept().find(10, 10), 10);
        Checks.same("find(400, 400)", kept().find(400, 400), 400);
        Checks.same("find(10, 400) of an empty row", new HiddenPeriods().find(10, 400), 10);
    }

    private static void findTo() {
        Checks.same("find(30, 30), to is from", kept().find(30, 30), 30);
        Checks.same("find(399, 400)", kept().find(399, 400), 399);
        // 11 tenths, two classes, explain two signs; 10 tenths explain one of them.
        Checks.same("find(10, 11), to is one of them", Checks.textOf("ab").find(10, 11), 11);
    }

    private static void findReturns() {
        HiddenPeriods x = kept();
        Checks.same("find(28, 31)", x.find(28, 31), x.period(0, 0));
        Checks.same("find(57, 57)", x.find(57, 57), 57);
    }

    private static void findOutOfRange() {
        for (int from : Checks.outside(10, 400)) {
            // A broken program that takes the least number would look for very long, if to were not so low too.
            int to = from < 0 ? from : 400;
            String what = "find(" + from + ", " + to + ")";
            Checks.refused(what, () -> kept(), Checks.ARGUMENT, x -> x.find(from, to));
            Checks.refused(what + " behind four", FOUR_KEPT, Checks.ARGUMENT, x -> x.find(from, to));
            Checks.refused("find(" + from + ", " + from + ")", () -> kept(), Checks.ARGUMENT, x -> x.find(from, from));
        }
        for (int to : Checks.outside(30, 400)) {
            Checks.refused("find(30, " + to + ")", () -> kept(), Checks.ARGUMENT, x -> x.find(30, to));
            Checks.refused("find(30, " + to + ") behind four", FOUR_KEPT, Checks.ARGUMENT, x -> x.find(30, to));
        }
        Checks.refused("find(400, 399)", () -> kept(), Checks.ARGUMENT, x -> x.find(400, 399));
    }

    private static void findFull() {
        Checks.same("a fourth one", kept(20, 1, 30, 2, 40, 3).find(60, 60), 60);
        Checks.refused("a fifth one", FOUR_KEPT, Checks.STATE, x -> x.find(60, 60));
        Checks.refused("a fifth one of many", FOUR_KEPT, Checks.STATE, x -> x.find(10, 400));
    }

    private static void findKept() {
        Checks.refused("find(30, 30) of what is kept", () -> kept(20, 1, 30, 0), Checks.STATE, x -> x.find(30, 30));
        Checks.refused("find(30, 35) of what is kept", () -> kept(30, 0), Checks.STATE, x -> x.find(30, 35));
        Checks.same("find(30, 30) with an other phase kept", kept(30, 2).find(30, 30), 30);
        keptAre(afterFind(kept(30, 2)), 30, 2, 30, 0);
        Checks.refused("find again", () -> afterFind(kept()), Checks.STATE, x -> x.find(30, 30));
        HiddenPeriods x = kept(30, 0);
        Checks.same("find(31, 35), where an other one is kept", x.find(31, 35), x.best(31, 35));
        HiddenPeriods y = kept(30, 0);
        y.drop(0);
        Checks.same("find(30, 30) behind its drop", y.find(30, 30), 30);
    }

    private static HiddenPeriods afterFind(HiddenPeriods x) {
        x.find(30, 30);
        return x;
    }

    // ---- mend

    private static void mended(String what, HiddenPeriods x, int many, String due) {
        Checks.same("mend(), " + what, x.mend(), many);
        Checks.same("the row, " + what, Checks.row(x), due);
    }

    private static HiddenPeriods byTen(String text, int hundredths) {
        HiddenPeriods x = Checks.textOf(text);
        x.keep(10, 0);
        x.set(2, hundredths);
        return x;
    }

    private static void mendOfTheWindow() {
        mended("without a window", byTen("baaab", 60), 2, "aaaaa");
        HiddenPeriods inner = byTen("baabab", 60);
        Checks.window(inner, 1, 4);
        mended("of the places 1 to 4", inner, 1, "baaaab");
        HiddenPeriods edges = byTen("baaab", 50);
        Checks.window(edges, 0, 2);
        mended("of the places 0 and 1, of which a is the lowest sign", edges, 1, "aaaab");
        HiddenPeriods last = byTen("baaab", 50);
        Checks.window(last, 3, 240);
        mended("of the places 3 and 4", last, 1, "baaaa");
        HiddenPeriods behind = byTen("baaab", 1);
        Checks.window(behind, 5, 1);
        mended("of a window behind the row", behind, 0, "baaab");
        mended("of what is explained", byTen("aaaa", 100), 0, "aaaa");
        HiddenPeriods none = new HiddenPeriods();
        none.keep(10, 0);
        mended("of an empty row", none, 0, "");
    }

    private static void mendStrong() {
        mended("without periods", Checks.textOf("aaab"), 0, "aaab");
        mended("with 3 of 4 by 75", byTen("aaab", 75), 1, "aaaa");
        mended("with 3 of 4 by 76", byTen("aaab", 76), 0, "aaab");
        mended("with several, the lowest one", byTen("dcba", 25), 3, "aaaa");
        // 4 of 8 are too few for 10 tenths; 20 tenths have 4 of 4, and 3 of 4.
        HiddenPeriods second = byTen("abacabab", 60);
        second.keep(20, 0);
        mended("by the second one", second, 1, "abababab");
        HiddenPeriods neither = byTen("abacabad", 60);
        neither.keep(20, 0);
        mended("by neither one", neither, 0, "abacabad");
        HiddenPeriods first = byTen("aaab", 75);
        first.keep(40, 0);
        mended("by the first one, though the second one explains all", first, 1, "aaaa");
        HiddenPeriods other = Checks.textOf("aaab");
        other.keep(40, 0);
        other.keep(10, 0);
        mended("by the first one, which explains all", other, 0, "aaab");
    }

    // Once the place 0 is "a", 4 of 5 places are, and 10 tenths would tell the place 1; at first 3 of 5 are too few.
    private static void mendLooksAhead() {
        HiddenPeriods x = Checks.textOf("bbaaa");
        x.set(2, 66);
        x.keep(20, 0);
        x.keep(10, 0);
        mended("the first time", x, 1, "abaaa");
        mended("the second time", x, 1, "aaaaa");
        mended("the third time", x, 0, "aaaaa");
    }

    private static void mendUndone() {
        Checks.undoable("mend of some", () -> byTen("aabaabaaa", 60), x -> x.mend());
        Checks.undoable("mend of none", () -> byTen("aaa", 60), x -> x.mend());
        Checks.undoable("mend of an empty row", HiddenPeriods::new, x -> x.mend());
    }

    private static void mendReturns() {
        HiddenPeriods x = byTen("aabaabaaa", 60);
        Checks.same("mend()", x.mend(), 2);
        Checks.same("mend() again", x.mend(), 0);
        Checks.same("mend() of an empty row", new HiddenPeriods().mend(), 0);
        HiddenPeriods full = new HiddenPeriods();
        full.grow(10, 240, 2);
        full.keep(10, 0);
        full.set(2, 50);
        Checks.same("mend() of a half of 240", full.mend(), 120);
        Checks.same("what is then explained", full.count(4), 240);
    }

    // ---- set

    private static void setOne() {
        int[] values = {17, 33, 44};
        for (int setting = 0; setting < 3; setting++) {
            HiddenPeriods x = kept();
            x.set(setting, values[setting]);
            for (int each = 0; each < 3; each++) {
                int due = each == setting ? values[each] : each == 2 ? 75 : 0;
                Checks.same("setting(" + each + ") behind set(" + setting + ", ..)", x.setting(each), due);
            }
            int one = setting;
            Checks.undoable("set(" + setting + ", ..)", () -> kept(30, 0), y -> y.set(one, values[one]));
            Checks.undoable("set(" + setting + ", ..) to what it is", () -> kept(30, 0), y -> y.set(one, y.setting(one)));
        }
    }

    private static void setSettings() {
        Checks.same("set(0, 1)", kept().set(0, 1), 0);
        Checks.same("set(1, 1)", kept().set(1, 1), 0);
        Checks.same("set(2, 1)", kept().set(2, 1), 75);
    }

    private static void setValues() {
        int[][] edges = {{0, 0}, {0, 239}, {1, 0}, {1, 240}, {2, 1}, {2, 100}};
        for (int[] edge : edges) {
            HiddenPeriods x = kept();
            x.set(edge[0], edge[1]);
            Checks.same("setting(" + edge[0] + ") behind set(.., " + edge[1] + ")", x.setting(edge[0]), edge[1]);
        }
    }

    private static void setReturns() {
        HiddenPeriods x = kept();
        Checks.same("set(0, 239)", x.set(0, 239), 0);
        Checks.same("set(0, 5)", x.set(0, 5), 239);
        Checks.same("set(0, 5) again", x.set(0, 5), 5);
        Checks.same("set(1, 240)", x.set(1, 240), 0);
        Checks.same("set(1, 0)", x.set(1, 0), 240);
        Checks.same("set(2, 100)", x.set(2, 100), 75);
        Checks.same("set(2, 1)", x.set(2, 1), 100);
    }

    private static void setNoSetting() {
        for (int setting : Checks.outside(0, 2)) {
            Checks.refused("set(" + setting + ", 1)", () -> kept(), Checks.INDEX, x -> x.set(setting, 1));
            Checks.refused("set(" + setting + ", 241)", () -> kept(), Checks.INDEX, x -> x.set(setting, 241));
        }
    }

    private static void setOutOfRange() {
        int[][] ranges = {{0, 239}, {0, 240}, {1, 100}};
        for (int setting = 0; setting < 3; setting++) {
            int one = setting;
            for (int value : Checks.outside(ranges[setting][0], ranges[setting][1])) {
                Checks.refused("set(" + setting + ", " + value + ")", () -> kept(), Checks.ARGUMENT, x -> x.set(one, value));
            }
        }
    }
}
