import java.math.BigInteger;
import java.util.List;
import java.util.function.Consumer;
import java.util.function.Supplier;

/** The boundaries of the promises 22 to 27: explains, best, bestPhase, bestWindow, share and digest. */
final class WouldBeBoundaries {
    private static final Supplier<HiddenPeriods> SIX = () -> Checks.textOf("abcabd");
    private static final String TEN = "aaaaaaaaaa";

    private WouldBeBoundaries() {
    }

    static void all(Sentences the) {
        the.of("Promise 22: explains");
        the.sentence("Tells what a period would explain of the window.", WouldBeBoundaries::explainsWindows);
        the.sentence("- `tenths`: 10 to 400", WouldBeBoundaries::explainsTenths);
        the.sentence("- `phase`: 0 to tenths - 1", WouldBeBoundaries::explainsPhases);
        the.sentence("Returns how many places.", WouldBeBoundaries::explainsReturns);
        the.sentence("Throws `IllegalArgumentException` if tenths or phase is out of range",
            WouldBeBoundaries::explainsOutOfRange);

        the.of("Promise 23: best");
        the.sentence("Finds the best period.", WouldBeBoundaries::bestOfRows);
        the.sentence("- `from`: the least tenths, 10 to 400", WouldBeBoundaries::bestFrom);
        the.sentence("- `to`: the greatest tenths, from to 400", WouldBeBoundaries::bestTo);
        the.sentence("Returns the tenths of the period, with the phase 0,", WouldBeBoundaries::bestOfPhase0);
        the.sentence("(4 times the places of the window that it explains, less the number of its classes) is greatest,",
            WouldBeBoundaries::bestWorth);
        the.sentence("is greatest, of several the least.", WouldBeBoundaries::bestOfSeveral);
        the.sentence("Throws `IllegalArgumentException` if from or to is out of range", WouldBeBoundaries::bestOutOfRange);

        the.of("Promise 24: bestPhase");
        the.sentence("Finds the best phase.", WouldBeBoundaries::phaseOfRows);
        the.sentence("- `tenths`: 10 to 400", WouldBeBoundaries::phaseTenths);
        the.sentence("Returns the phase with which a period of these tenths explains most places of the window,",
            WouldBeBoundaries::phaseOfWindows);
        the.sentence("of several the least.", WouldBeBoundaries::phaseOfSeveral);
        the.sentence("Throws `IllegalArgumentException` if tenths is out of range", WouldBeBoundaries::phaseOutOfRange);

        the.of("Promise 25: bestWindow");
        the.sentence("Finds where a window shows a period best.", WouldBeBoundaries::windowOfRows);
        the.sentence("- `tenths`: 10 to 400", WouldBeBoundaries::windowTenths);
        the.sentence("- `places`: 1 to 240", WouldBeBoundaries::windowPlaces);
        the.sentence("Returns the first place of the window of so many places, all in the row,",
            WouldBeBoundaries::windowAllInTheRow);
        the.sentence("of which the period, with the phase 0, explains most,", WouldBeBoundaries::windowOfPhase0);
        the.sentence("of several the least;", WouldBeBoundaries::windowOfSeveral);
        the.sentence("NONE if the row has not so many.", WouldBeBoundaries::windowNone);
        the.sentence("Throws `IllegalArgumentException` if tenths or places is out of range",
            WouldBeBoundaries::windowOutOfRange);

        the.of("Promise 26: share");
        the.sentence("Returns the share of places that are explained.", WouldBeBoundaries::shareOfRows);
        the.sentence("Returns the places of the window that are explained by the kept periods together, as a double, "
            + "divided by the places of the window;", WouldBeBoundaries::shareAsDouble);
        the.sentence("1.0 if it is empty.", WouldBeBoundaries::shareOfNone);

        the.of("Promise 27: digest");
        the.sentence("Computes a hash of the whole state.", WouldBeBoundaries::digestOfEach);
        the.sentence("The hash starts at 2953.", WouldBeBoundaries::digestOfNew);
        the.sentence("the hash becomes 31 * hash + v, in long arithmetic with overflow.", WouldBeBoundaries::digestOverflows);
        the.sentence("The values are: count(0) to count(9); the settings 0 to 2;", WouldBeBoundaries::digestOfSettings);
        the.sentence("each sign of the row;", WouldBeBoundaries::digestOfSigns);
        the.sentence("for each kept period its numbers 0 to 6,", WouldBeBoundaries::digestOfPeriods);
        the.sentence("and for each class the counts of the signs 0 to 3 and the sign;", WouldBeBoundaries::digestOfClasses);
        the.sentence("told with 0 and 1 of the first 20 places of the row, as far as there are;",
            WouldBeBoundaries::digestOfTold);
        the.sentence("best of 20 to 60;", WouldBeBoundaries::digestOfBest);
        the.sentence("bestPhase of 35;", WouldBeBoundaries::digestOfPhase);
        the.sentence("bestWindow of 40 tenths and 12 places;", WouldBeBoundaries::digestOfWindow);
        the.sentence("the bits of share (as Double.doubleToLongBits);", WouldBeBoundaries::digestOfShare);
        the.sentence("the length of the buffer and each of its character codes.", WouldBeBoundaries::digestOfBuffer);
        the.sentence("Returns the hash.", WouldBeBoundaries::digestOfFull);

        the.of("Exceptions");
        the.sentence("---- what would be; nothing is changed.", WouldBeBoundaries::nothingIsChanged);
    }

    private static HiddenPeriods windowed(String text, int first, int places) {
        HiddenPeriods x = Checks.textOf(text);
        Checks.window(x, first, places);
        return x;
    }

    // ---- explains

    private static void explainsWindows() {
        Checks.same("of an empty row", new HiddenPeriods().explains(10, 0), 0);
        Checks.same("of one sign", Checks.textOf("d").explains(10, 9), 1);
        Checks.same("of the row", SIX.get().explains(30, 0), 5);
        Checks.same("of the first three", windowed("abcabd", 0, 3).explains(30, 0), 3);
        Checks.same("of the last three", windowed("abcabd", 3, 3).explains(30, 0), 3);
        Checks.same("of the last four", windowed("abcabd", 2, 4).explains(30, 0), 3);
        Checks.same("of the last one, by a window of two", windowed("abcabd", 5, 2).explains(30, 0), 1);
        Checks.same("of an empty window", windowed("abcabd", 6, 2).explains(30, 0), 0);
        Checks.same("of the row, setting 1 is 0", windowed("abcabd", 6, 0).explains(30, 0), 5);
        Checks.same("of 240", Checks.rowOfMany(240).explains(400, 399), 240);
    }

    private static void explainsTenths() {
        Checks.same("explains(10, 0)", SIX.get().explains(10, 0), 2);
        Checks.same("explains(11, 0)", SIX.get().explains(11, 0), 3);
        Checks.same("explains(399, 0)", SIX.get().explains(399, 0), 6);
        Checks.same("explains(400, 0)", SIX.get().explains(400, 0), 6);
    }

    private static void explainsPhases() {
        Checks.same("explains(10, 9)", SIX.get().explains(10, 9), 2);
        // 15 tenths have the classes 0 1 0 from the phases 0 to 4, 0 0 1 from 5 to 9, 1 0 0 from 10 to 14.
        HiddenPeriods x = Checks.textOf("aabaab");
        Checks.same("explains(15, 0)", x.explains(15, 0), 4);
        Checks.same("explains(15, 4)", x.explains(15, 4), 4);
        Checks.same("explains(15, 5)", x.explains(15, 5), 6);
        Checks.same("explains(15, 9)", x.explains(15, 9), 6);
        Checks.same("explains(15, 10)", x.explains(15, 10), 4);
        Checks.same("explains(15, 14)", x.explains(15, 14), 4);
        Checks.same("explains(400, 399)", x.explains(400, 399), 6);
    }

    private static void explainsReturns() {
        HiddenPeriods x = Checks.textOf("aaaab");
        Checks.same("explains(10, 0)", x.explains(10, 0), 4);
        x.set(2, 100);
        Checks.same("explains(10, 0), though the class is not strong", x.explains(10, 0), 4);
        Checks.same("nothing is kept", x.count(3), 0);
    }

    private static void explainsOutOfRange() {
        for (int tenths : Checks.outside(10, 400)) {
            Checks.refused("explains(" + tenths + ", 0)", SIX, Checks.ARGUMENT, x -> x.explains(tenths, 0));
        }
        for (int tenths : new int[] {10, 25, 400}) {
            for (int phase : Checks.outside(0, tenths - 1)) {
                Checks.refused("explains(" + tenths + ", " + phase + ")", SIX, Checks.ARGUMENT,
                    x -> x.explains(tenths, phase));
            }
        }
        Checks.refused("explains(0, 0)", HiddenPeriods::new, Checks.ARGUMENT, x -> x.explains(0, 0));
    }

    // ---- best

    private static void bestOfRows() {
        Checks.same("best(10, 400) of an empty row", new HiddenPeriods().best(10, 400), 10);
        Checks.same("best(10, 400) of one sign", Checks.textOf("c").best(10, 400), 10);
        HiddenPeriods x = Checks.textOf("(abc)4");
        Checks.same("best(30, 400)", x.best(30, 400), 30);
        HiddenPeriods drift = new HiddenPeriods();
        drift.grow(37, 240, 0);
        Checks.same("best(10, 400) of a drift", drift.best(10, 400), 37);
        HiddenPeriods part = windowed("bababc(abc)4", 6, 12);
        Checks.same("best(30, 400) of a window", part.best(30, 400), 30);
        part.set(0, 18);
        Checks.same("best(29, 31) of an empty window", part.best(29, 31), 29);
    }

    private static void bestFrom() {
        Checks.same("best(10, 10)", SIX.get().best(10, 10), 10);
        Checks.same("best(400, 400)", SIX.get().best(400, 400), 400);
        // All from 300 on explain each of six: the least of 30 classes is the first.
        Checks.same("best(291, 400)", SIX.get().best(291, 400), 291);
        Checks.same("best(300, 400)", SIX.get().best(300, 400), 300);
    }

    private static void bestTo() {
        Checks.same("best(11, 11), to is from", SIX.get().best(11, 11), 11);
        Checks.same("best(10, 11), to is one of them", Checks.textOf("ab").best(10, 11), 11);
        Checks.same("best(10, 10)", Checks.textOf("ab").best(10, 10), 10);
        HiddenPeriods last = new HiddenPeriods();
        last.grow(400, 240, 0);
        // With 399 tenths the places of 240 have the classes that they have with 400.
        Checks.same("best(390, 399), to is one of them", last.best(390, 399), 399);
        Checks.same("best(390, 398)", last.best(390, 398), bestByExplains(last, 390, 398));
        Checks.same("best(390, 400)", last.best(390, 400), 399);
    }

    // By the other calls, and from the greatest tenths down.
    private static int bestByExplains(HiddenPeriods x, int from, int to) {
        int found = to;
        for (int tenths = to; tenths >= from; tenths--) {
            int worth = 4 * x.explains(tenths, 0) - (tenths + 9) / 10;
            if (worth >= 4 * x.explains(found, 0) - (found + 9) / 10) {
                found = tenths;
            }
        }
        return found;
    }

    // 15 tenths would explain all six with the phase 5, but four of them with the phase 0.
    private static void bestOfPhase0() {
        HiddenPeriods x = Checks.textOf("aabaab");
        Checks.same("best(10, 20)", x.best(10, 20), 10);
        Checks.same("explains(15, 5)", x.explains(15, 5), 6);
        Checks.same("best(10, 20) as by the phase 0", x.best(10, 20), bestByExplains(x, 10, 20));
    }

    private static void bestWorth() {
        // 10 tenths: 4 * 1 - 1; 11 tenths: 4 * 2 - 2.
        Checks.same("best(10, 400) of ab", Checks.textOf("ab").best(10, 400), 11);
        // 10 tenths: 4 * 3 - 1; 31 tenths are the least that explain all: 4 * 4 - 4, which is one more.
        Checks.same("best(10, 400) of aaab", Checks.textOf("aaab").best(10, 400), 31);
        // 10 tenths: 4 * 5 - 1; 51 tenths are the least that explain all: 4 * 6 - 6, which is one less.
        Checks.same("best(10, 400) of aaaaab", Checks.textOf("aaaaab").best(10, 400), 10);
        // 20 tenths: 4 * 5 - 2; 51 tenths: 4 * 6 - 6, as a part of a class is one.
        Checks.same("best(20, 100) of aaaaab", Checks.textOf("aaaaab").best(20, 100), 20);
        Checks.same("best(20, 30) of none: 2 classes are least", new HiddenPeriods().best(20, 30), 20);
        Checks.same("best(30, 35) of none: 3 classes are least", new HiddenPeriods().best(30, 35), 30);
    }

    private static void bestOfSeveral() {
        // 10 tenths: 4 * 4 - 1; 41 tenths are the least that explain all: 4 * 5 - 5, which is no more.
        Checks.same("best(10, 400) of aaaab", Checks.textOf("aaaab").best(10, 400), 10);
        Checks.same("best(11, 400) of one sign", Checks.textOf("c").best(11, 400), 11);
        Checks.same("best(12, 20) of none", new HiddenPeriods().best(12, 20), 12);
        Checks.same("best(391, 400) of none", new HiddenPeriods().best(391, 400), 391);
        Checks.same("best(121, 400)", Checks.textOf("(abc)4").best(121, 400), 121);
    }

    private static void bestOutOfRange() {
        for (Supplier<HiddenPeriods> made : List.of(SIX, (Supplier<HiddenPeriods>) HiddenPeriods::new)) {
            for (int from : Checks.outside(10, 400)) {
                // A broken program that takes the least number would look for very long, if to were not so low too.
                int to = from < 0 ? from : 400;
                Checks.refused("best(" + from + ", " + to + ")", made, Checks.ARGUMENT, x -> x.best(from, to));
                Checks.refused("best(" + from + ", " + from + ")", made, Checks.ARGUMENT, x -> x.best(from, from));
            }
            for (int to : Checks.outside(30, 400)) {
                Checks.refused("best(30, " + to + ")", made, Checks.ARGUMENT, x -> x.best(30, to));
            }
            Checks.refused("best(400, 399)", made, Checks.ARGUMENT, x -> x.best(400, 399));
        }
    }

    // ---- bestPhase

    private static void phaseOfRows() {
        Checks.same("bestPhase(15) of aab", Checks.textOf("aabaab").bestPhase(15), 5);
        Checks.same("bestPhase(15) of baa", Checks.textOf("baabaa").bestPhase(15), 10);
        Checks.same("bestPhase(15) of aba", Checks.textOf("abaaba").bestPhase(15), 0);
        // 11 tenths have the class 1 at each 11th place; from the phase 10, which is the last one, at 0.
        Checks.same("bestPhase(11), the last", Checks.textOf("b" + TEN + "b" + TEN).bestPhase(11), 10);
        Checks.same("bestPhase(11), the last but one", Checks.textOf(TEN + "b" + TEN + "b").bestPhase(11), 9);
    }

    private static void phaseTenths() {
        Checks.same("bestPhase(10)", SIX.get().bestPhase(10), 0);
        Checks.same("bestPhase(400)", SIX.get().bestPhase(400), 0);
    }

    private static void phaseOfWindows() {
        HiddenPeriods x = windowed("aabaabcbabaabaa", 9, 6);
        Checks.same("bestPhase(15) of a window", x.bestPhase(15), 10);
        x.set(0, 0);
        Checks.same("bestPhase(15) of an other window", x.bestPhase(15), 5);
        x.set(0, 15);
        Checks.same("bestPhase(15) of an empty window", x.bestPhase(15), 0);
        x.set(0, 14);
        Checks.same("bestPhase(15) of one place", x.bestPhase(15), 0);
        Checks.same("bestPhase(400) of an empty row", new HiddenPeriods().bestPhase(400), 0);
    }

    private static void phaseOfSeveral() {
        HiddenPeriods x = Checks.textOf("aabaab");
        for (int phase = 5; phase < 10; phase++) {
            Checks.same("explains(15, " + phase + ")", x.explains(15, phase), 6);
        }
        Checks.same("bestPhase(15), the least of 5 to 9", x.bestPhase(15), 5);
        Checks.same("bestPhase(30) of one sign", Checks.textOf("dddd").bestPhase(30), 0);
    }

    private static void phaseOutOfRange() {
        for (int tenths : Checks.outside(10, 400)) {
            Checks.refused("bestPhase(" + tenths + ")", SIX, Checks.ARGUMENT, x -> x.bestPhase(tenths));
            Checks.refused("bestPhase(" + tenths + ") of none", HiddenPeriods::new, Checks.ARGUMENT, x -> x.bestPhase(tenths));
        }
        Checks.refused("bestPhase(0)", HiddenPeriods::new, Checks.ARGUMENT, x -> x.bestPhase(0));
    }

    // ---- bestWindow

    private static void windowOfRows() {
        HiddenPeriods x = Checks.textOf("ddbcabababcd");
        Checks.same("bestWindow(20, 6)", x.bestWindow(20, 6), 4);
        Checks.same("bestWindow(10, 2)", x.bestWindow(10, 2), 0);
        Checks.window(x, 0, 2);
        Checks.same("bestWindow(20, 6), whatever the settings are", x.bestWindow(20, 6), 4);
    }

    private static void windowTenths() {
        Checks.same("bestWindow(10, 3)", Checks.textOf("abcddd").bestWindow(10, 3), 3);
        Checks.same("bestWindow(400, 3)", Checks.textOf("abcddd").bestWindow(400, 3), 0);
    }

    private static void windowPlaces() {
        Checks.same("bestWindow(10, 1)", SIX.get().bestWindow(10, 1), 0);
        Checks.same("bestWindow(10, 240) of 240", Checks.rowOfMany(240).bestWindow(10, 240), 0);
        Checks.same("bestWindow(10, 240) of 239", Checks.rowOfMany(239).bestWindow(10, 240), -1);
        HiddenPeriods x = Checks.rowOfMany(240);
        x.change(0, 1);
        Checks.same("bestWindow(10, 239) of 240", x.bestWindow(10, 239), 1);
        x.change(0, 0);
        x.change(239, 1);
        Checks.same("bestWindow(10, 239) of 240, the first one", x.bestWindow(10, 239), 0);
    }

    private static void windowAllInTheRow() {
        Checks.same("the last one", Checks.textOf("abcddd").bestWindow(10, 3), 3);
        Checks.same("the last but one", Checks.textOf("abcddda").bestWindow(10, 3), 3);
        Checks.same("the first one", Checks.textOf("dddabcd").bestWindow(10, 3), 0);
        Checks.same("no part of a window", Checks.textOf("abacddd").bestWindow(10, 4), 3);
        Checks.same("the last one, of one place", Checks.textOf("d").bestWindow(10, 1), 0);
    }

    // 25 tenths from the places 0 and 1 on: classes 0 1 2 0, with a b a c, and 1 2 0 1, with b a c b.
    private static void windowOfPhase0() {
        HiddenPeriods x = Checks.textOf("abacb");
        Checks.same("bestWindow(25, 4)", x.bestWindow(25, 4), 1);
        Checks.window(x, 1, 4);
        Checks.same("explains(25, 0) of it", x.explains(25, 0), 4);
        Checks.window(x, 0, 4);
        Checks.same("explains(25, 0) of the one before it", x.explains(25, 0), 3);
        // 15 tenths have the classes 0 1 0 at the places 0 to 2, and again and again; with the phase 5, 0 0 1.
        Checks.same("bestWindow(15, 3)", Checks.textOf("aabbaba").bestWindow(15, 3), 1);
        // 11 tenths have the class 1 at the place 1, with the phase 1 at the place 2.
        Checks.same("bestWindow(11, 2)", Checks.textOf("abcd").bestWindow(11, 2), 0);
        Checks.same("bestWindow(15, 3) from 3 on", Checks.textOf("aabcacb").bestWindow(15, 3), 3);
    }

    private static void windowOfSeveral() {
        Checks.same("bestWindow(10, 2)", Checks.textOf("abaabb").bestWindow(10, 2), 2);
        Checks.same("bestWindow(10, 1)", Checks.textOf("abaabb").bestWindow(10, 1), 0);
        Checks.same("bestWindow(10, 3) of one sign", Checks.textOf("ddddd").bestWindow(10, 3), 0);
    }

    private static void windowNone() {
        Checks.same("bestWindow(10, 1) of none", new HiddenPeriods().bestWindow(10, 1), -1);
        Checks.same("bestWindow(10, 6) of six", SIX.get().bestWindow(10, 6), 0);
        Checks.same("bestWindow(10, 7) of six", SIX.get().bestWindow(10, 7), -1);
        Checks.same("bestWindow(10, 240) of six", SIX.get().bestWindow(10, 240), -1);
        HiddenPeriods x = windowed("abcabd", 2, 2);
        Checks.same("bestWindow(10, 3), though the window has two", x.bestWindow(10, 3), 0);
    }

    private static void windowOutOfRange() {
        for (int tenths : Checks.outside(10, 400)) {
            Checks.refused("bestWindow(" + tenths + ", 1)", SIX, Checks.ARGUMENT, x -> x.bestWindow(tenths, 1));
            Checks.refused("bestWindow(" + tenths + ", 7)", SIX, Checks.ARGUMENT, x -> x.bestWindow(tenths, 7));
        }
        for (int places : Checks.outside(1, 240)) {
            Checks.refused("bestWindow(10, " + places + ")", SIX, Checks.ARGUMENT, x -> x.bestWindow(10, places));
            Checks.refused("bestWindow(10, " + places + ") of 240", () -> Checks.rowOfMany(240), Checks.ARGUMENT,
                x -> x.bestWindow(10, places));
        }
    }

    // ---- share

    private static HiddenPeriods strongBy(String text, int tenths, int hundredths) {
        HiddenPeriods x = Checks.textOf(text);
        x.keep(tenths, 0);
        x.set(2, hundredths);
        return x;
    }

    private static void shareOfRows() {
        Checks.same("of what no period tells", Checks.textOf("aaa").share(), 0.0);
        Checks.same("of what is not strong", strongBy("aab", 10, 67).share(), 0.0);
        Checks.same("of all", strongBy("aaa", 10, 100).share(), 1.0);
        Checks.same("of a half", strongBy("abab", 10, 50).share(), 0.5);
    }

    private static void shareAsDouble() {
        Checks.same("2 of 3", strongBy("aab", 10, 66).share(), 2.0 / 3.0);
        Checks.same("1 of 3", strongBy("abc", 10, 1).share(), 1.0 / 3.0);
        HiddenPeriods x = Checks.rowOfMany(239);
        x.put(1);
        x.keep(10, 0);
        Checks.same("239 of 240", x.share(), 239.0 / 240.0);
        HiddenPeriods window = strongBy("aaabb", 10, 50);
        Checks.window(window, 2, 3);
        Checks.same("2 of the window's 3", window.share(), 2.0 / 3.0);
        HiddenPeriods both = strongBy("aaabab", 10, 100);
        both.keep(20, 0);
        both.set(2, 66);
        Checks.same("by the first one of two", both.share(), 4.0 / 6.0);
    }

    private static void shareOfNone() {
        Checks.same("of an empty row", new HiddenPeriods().share(), 1.0);
        HiddenPeriods x = strongBy("aab", 10, 100);
        Checks.window(x, 3, 1);
        Checks.same("of an empty window", x.share(), 1.0);
        x.set(0, 2);
        Checks.same("of a window of one place that is explained", x.share(), 1.0);
        x.drop(0);
        Checks.same("of a window of one place that is not", x.share(), 0.0);
        x.undo();
        x.set(1, 0);
        Checks.same("of the row", x.share(), 0.0);
        x.cut(3);
        Checks.same("of what is cut", x.share(), 1.0);
    }

    // ---- digest

    private static void digestIs(String of, HiddenPeriods x, String buffer) {
        Checks.same("digest() of " + of, x.digest(), Model.digestByLooks(x, buffer));
    }

    private static void digestDiffers(String by, HiddenPeriods x, HiddenPeriods y) {
        Checks.holds("an other digest by " + by, x.digest() != y.digest());
    }

    private static HiddenPeriods after(HiddenPeriods x, Consumer<HiddenPeriods> call) {
        call.accept(x);
        return x;
    }

    private static void digestOfEach() {
        digestDiffers("a sign", after(SIX.get(), x -> x.change(5, 0)), after(SIX.get(), x -> x.change(5, 1)));
        digestDiffers("tenths", after(SIX.get(), x -> x.keep(30, 0)), after(SIX.get(), x -> x.keep(31, 0)));
        digestDiffers("a phase", after(SIX.get(), x -> x.keep(300, 0)), after(SIX.get(), x -> x.keep(300, 1)));
        for (int setting = 0; setting < 3; setting++) {
            int one = setting;
            digestDiffers("setting(" + setting + ")", after(SIX.get(), x -> x.set(one, 70)),
                after(SIX.get(), x -> x.set(one, 71)));
        }
        digestDiffers("saved states", SIX.get(), after(SIX.get(), x -> x.set(0, 0)));
        digestDiffers("a character", after(SIX.get(), x -> x.append('!')), after(SIX.get(), x -> x.append('"')));
        digestDiffers("the length of the buffer", SIX.get(), after(SIX.get(), x -> x.append('!')));
    }

    private static long hashOf(long start, long... values) {
        BigInteger hash = BigInteger.valueOf(start);
        for (long value : values) {
            hash = hash.multiply(BigInteger.valueOf(31)).add(BigInteger.valueOf(value));
        }
        return hash.longValue();
    }

    private static void digestOfNew() {
        long due = hashOf(2953, 0, 0, 0, 0, 0, 0, -1, 0, 0, 0, 0, 0, 75, 20, 0, -1, 0x3ff0000000000000L, 0);
        Checks.same("digest() of a new one", new HiddenPeriods().digest(), due);
    }

    // The row "a", by hand; the numbers go far beyond 64 bits, of which the lower ones are left.
    private static void digestOverflows() {
        HiddenPeriods x = new HiddenPeriods();
        x.put(0);
        x.keep(10, 3);
        Checks.type(x, "(!");
        long due = hashOf(2953, 1, 1, 0, 1, 1, 0, 0, 1, 1, 2, 0, 0, 75, 0, 10, 3, 1, 1, 0, 1, 1, 1, 0, 0, 0, 0, 0, 0, 20, 0, -1,
            0x3ff0000000000000L, 2, '(', '!');
        Checks.same("digest() of one sign and one period", x.digest(), due);
    }

    private static void digestOfSettings() {
        int[][] edges = {{0, 239}, {1, 1}, {1, 240}, {2, 1}, {2, 100}};
        for (int[] edge : edges) {
            HiddenPeriods x = LooksBoundaries.kept("abacabad", 20, 0, 10, 0);
            x.set(edge[0], edge[1]);
            digestIs("setting(" + edge[0] + ") as " + edge[1], x, "");
        }
    }

    private static void digestOfSigns() {
        for (int many : new int[] {1, 2, 239, 240}) {
            HiddenPeriods x = new HiddenPeriods();
            x.grow(33, many, 5);
            digestIs(many + " signs", x, "");
        }
        digestDiffers("the last sign of 240", after(Checks.rowOfMany(240), x -> x.change(239, 0)),
            after(Checks.rowOfMany(240), x -> x.change(239, 1)));
    }

    private static void digestOfPeriods() {
        HiddenPeriods x = Checks.textOf("abacabad");
        digestIs("no period", x, "");
        int[][] pairs = {{20, 0}, {40, 39}, {10, 9}, {400, 399}};
        for (int number = 0; number < 4; number++) {
            x.keep(pairs[number][0], pairs[number][1]);
            digestIs((number + 1) + " periods", x, "");
        }
        x.drop(0);
        digestIs("3 periods behind a drop", x, "");
    }

    private static void digestOfClasses() {
        for (int tenths : new int[] {10, 11, 20, 25, 391, 400}) {
            digestIs("classes of " + tenths, LooksBoundaries.kept("abacabad", tenths, tenths - 1), "");
        }
        HiddenPeriods none = new HiddenPeriods();
        none.keep(25, 0);
        // 3 classes without places: four counts of 0, and NONE.
        long due = hashOf(2953, 0, 0, 0, 1, 0, 0, -1, 0, 0, 1, 0, 0, 75, 25, 0, 3, 0, 0, 0, 0,
            0, 0, 0, 0, -1, 0, 0, 0, 0, -1, 0, 0, 0, 0, -1, 20, 0, -1, 0x3ff0000000000000L, 0);
        Checks.same("digest() of classes without places", none.digest(), due);
    }

    private static void digestOfTold() {
        for (int many : new int[] {0, 1, 19, 20, 21, 240}) {
            HiddenPeriods x = many == 0 ? new HiddenPeriods() : Checks.rowOfMany(many);
            x.keep(10, 0);
            digestIs("told of " + many + " places", x, "");
            Checks.window(x, 19, 1);
            digestIs("told of the place 19 of " + many, x, "");
            x.set(0, 20);
            digestIs("told of the place 20 of " + many, x, "");
        }
    }

    private static void digestOfBest() {
        for (int tenths : new int[] {19, 20, 21, 59, 60, 61}) {
            HiddenPeriods x = new HiddenPeriods();
            x.grow(tenths, 240, 0);
            boolean isAmong = tenths >= 20 && tenths <= 60;
            Checks.holds("best(20, 60) of " + tenths + " is it, if among them", (x.best(20, 60) == tenths) == isAmong);
            digestIs("best of " + tenths, x, "");
        }
        digestIs("best of none", new HiddenPeriods(), "");
    }

    private static void digestOfPhase() {
        for (int phase = 0; phase < 35; phase += 5) {
            HiddenPeriods x = Checks.rowOfMany(60);
            for (int place = 0; place < 60; place++) {
                // A row that the phase explains: each sign is that of its class.
                if ((10 * place + phase) % 35 / 10 > 0) {
                    x.change(place, (10 * place + phase) % 35 / 10);
                }
            }
            Checks.same("explains(35, " + phase + ")", x.explains(35, x.bestPhase(35)), 60);
            digestIs("bestPhase by " + phase, x, "");
        }
    }

    private static void digestOfWindow() {
        for (String text : new String[] {"(ab)5a", "(ab)6", "d(abcd)3", "(bd)6(abcd)3", "(abcdc)6(abcd)3"}) {
            HiddenPeriods x = Checks.textOf(text);
            digestIs("bestWindow of " + text, x, "");
        }
        Checks.same("bestWindow(40, 12) of 11", Checks.textOf("(ab)5a").bestWindow(40, 12), -1);
        Checks.same("bestWindow(40, 12) of 12", Checks.textOf("(ab)6").bestWindow(40, 12), 0);
    }

    private static void digestOfShare() {
        HiddenPeriods x = new HiddenPeriods();
        digestIs("the share 1.0 of none", x, "");
        x.put(0);
        digestIs("the share 0.0", x, "");
        x.keep(10, 0);
        digestIs("the share 1.0 of one", x, "");
        x.set(2, 1);
        for (int many = 2; many <= 12; many++) {
            x.put(many % 4);
            digestIs("the share of the first sign of " + many, x, "");
        }
        HiddenPeriods y = Checks.rowOfMany(239);
        y.put(1);
        y.keep(10, 0);
        digestIs("the share 239 of 240", y, "");
        y.drop(0);
        y.keep(400, 0);
        y.set(2, 100);
        for (int place = 0; place < 200; place += 13) {
            y.change(place, 2);
        }
        digestIs("an other share", y, "");
    }

    private static void digestOfBuffer() {
        HiddenPeriods x = new HiddenPeriods();
        digestIs("an empty buffer", x, "");
        x.append(33);
        digestIs("one character", x, "!");
        x.append(126);
        digestIs("two characters", x, "!~");
        HiddenPeriods full = Checks.typed("ab".repeat(30));
        digestIs("60 characters", full, "ab".repeat(30));
        full.clearBuffer();
        digestIs("a buffer that is cleared", full, "");
    }

    private static void digestOfFull() {
        digestIs("what is full", UndoBoundaries.full(), "(ab)2" + "c".repeat(55));
        HiddenPeriods x = UndoBoundaries.full();
        Checks.same("digest() again", x.digest(), x.digest());
        Checks.same("digest() of an other object", x.digest(), UndoBoundaries.full().digest());
    }

    // ---- all of them

    private static void nothingIsChanged() {
        HiddenPeriods x = UndoBoundaries.full();
        x.explains(30, 3);
        x.best(10, 400);
        x.bestPhase(400);
        x.bestWindow(10, 100);
        x.share();
        x.digest();
        Checks.alikeToTheirBegins("behind what would be", x, UndoBoundaries.full());
    }
}
