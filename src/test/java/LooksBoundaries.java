import java.util.function.Supplier;

/** The boundaries of the promises 16 to 21: sign, period, remainder, told, count and setting. */
final class LooksBoundaries {
    private static final Supplier<HiddenPeriods> EMPTY = HiddenPeriods::new;

    private LooksBoundaries() {
    }

    static void all(Sentences the) {
        the.of("Promise 16: sign");
        the.sentence("Returns a sign.", LooksBoundaries::signs);
        the.sentence("- `place`: 0 or more", LooksBoundaries::signPlaces);
        the.sentence("Returns the sign, NONE if there are not so many.", LooksBoundaries::signOfNone);
        the.sentence("Throws `IllegalArgumentException` if place is below 0", LooksBoundaries::signBelow);

        the.of("Promise 17: period");
        the.sentence("Returns something of a kept period.", LooksBoundaries::periodOfFour);
        the.sentence("- `period`: its number", LooksBoundaries::periodNumbers);
        the.sentence("- `what`: 0: its tenths; 1: its phase;", LooksBoundaries::periodTenths);
        the.sentence("2: its classes;", LooksBoundaries::periodClasses);
        the.sentence("3: what it explains of the window;", LooksBoundaries::periodExplains);
        the.sentence("4: its odds;", LooksBoundaries::periodOdds);
        the.sentence("5: its strong classes;", LooksBoundaries::periodStrong);
        the.sentence("6: places of the window that it is the first one to have a strong class of",
            LooksBoundaries::periodTells);
        the.sentence("Returns the number.", LooksBoundaries::periodReturns);
        the.sentence("Throws `IndexOutOfBoundsException` if there is no such period", LooksBoundaries::periodNone);
        the.sentence("Throws `IllegalArgumentException` if what is not 0 to 6", LooksBoundaries::periodOutOfRange);

        the.of("Promise 18: remainder");
        the.sentence("Returns a count by remainders of a kept period.", LooksBoundaries::remainderCounts);
        the.sentence("- `period`: its number", LooksBoundaries::remainderNumbers);
        the.sentence("- `group`: the class, 0 to less than its classes", LooksBoundaries::remainderClasses);
        the.sentence("- `sign`: 0 to 3,", LooksBoundaries::remainderSigns);
        the.sentence("or 4: the sign of the class instead", LooksBoundaries::remainderSignOfClass);
        the.sentence("Returns the count, or the sign of the class.", LooksBoundaries::remainderEmpty);
        the.sentence("Throws `IndexOutOfBoundsException` if there is no such period or class", LooksBoundaries::remainderNone);
        the.sentence("Throws `IllegalArgumentException` if sign is out of range", LooksBoundaries::remainderOutOfRange);

        the.of("Promise 19: told");
        the.sentence("Returns what the kept periods tell of a place.", LooksBoundaries::toldAll);
        the.sentence("- `place`: its place", LooksBoundaries::toldPlaces);
        the.sentence("0: the sign that they tell together, NONE if no one has a strong class of it,",
            LooksBoundaries::toldNotStrong);
        the.sentence("or it is not in the window;", LooksBoundaries::toldOutside);
        the.sentence("1: the period that tells it, NONE likewise;", LooksBoundaries::toldBy);
        the.sentence("2: 1 if the place is explained, otherwise 0", LooksBoundaries::toldExplained);
        the.sentence("Returns the number.", LooksBoundaries::toldReturns);
        the.sentence("Throws `IndexOutOfBoundsException` if there is no such place", LooksBoundaries::toldNoPlace);
        the.sentence("Throws `IllegalArgumentException` if what is not 0 to 2", LooksBoundaries::toldOutOfRange);

        the.of("Promise 20: count");
        the.sentence("Returns a number.", LooksBoundaries::countOfEmpty);
        the.sentence("0: signs of the row;", LooksBoundaries::countSigns);
        the.sentence("1: places of the window;", LooksBoundaries::countPlaces);
        the.sentence("2: the place at which it begins (setting 0 as it is, if setting 1 is above 0, otherwise 0);",
            LooksBoundaries::countBegin);
        the.sentence("3: kept periods;", LooksBoundaries::countKept);
        the.sentence("4: places of the window that are explained by the kept periods together;",
            LooksBoundaries::countExplained);
        the.sentence("5: places of the window of which no kept period has a strong class;", LooksBoundaries::countNotTold);
        the.sentence("6: the most common sign of the window, NONE if it is empty;", LooksBoundaries::countCommon);
        the.sentence("7: how many it has of it;", LooksBoundaries::countOfCommon);
        the.sentence("8: the longest stretch of the window that is explained;", LooksBoundaries::countStretch);
        the.sentence("9: saved states", LooksBoundaries::countSaved);
        the.sentence("Returns the number.", LooksBoundaries::countOfFull);
        the.sentence("Throws `IllegalArgumentException` if what is not 0 to 9", LooksBoundaries::countOutOfRange);

        the.of("Promise 21: setting");
        the.sentence("Returns a setting.", LooksBoundaries::settingOne);
        the.sentence("- `setting`: 0 to 2", LooksBoundaries::settings);
        the.sentence("Returns its value.", LooksBoundaries::settingReturns);
        the.sentence("Throws `IndexOutOfBoundsException` if there is no such setting", LooksBoundaries::settingNone);

        the.of("Exceptions");
        the.sentence("---- looks; nothing is changed.", LooksBoundaries::looksChangeNothing);
    }

    /** A row, and periods: their tenths and phases by turns. */
    static HiddenPeriods kept(String text, int... pairs) {
        HiddenPeriods x = Checks.textOf(text);
        for (int i = 0; i < pairs.length; i += 2) {
            x.keep(pairs[i], pairs[i + 1]);
        }
        return x;
    }

    private static HiddenPeriods windowed(HiddenPeriods x, int first, int places) {
        Checks.window(x, first, places);
        return x;
    }

    private static HiddenPeriods strongBy(HiddenPeriods x, int hundredths) {
        x.set(2, hundredths);
        return x;
    }

    // ---- sign

    private static void signs() {
        HiddenPeriods x = Checks.textOf("dcba");
        for (int place = 0; place < 4; place++) {
            Checks.same("sign(" + place + ")", x.sign(place), 3 - place);
        }
    }

    private static void signPlaces() {
        HiddenPeriods full = Checks.rowOfMany(240);
        full.change(0, 1);
        full.change(239, 2);
        Checks.same("sign(0)", full.sign(0), 1);
        Checks.same("sign(239)", full.sign(239), 2);
        Checks.same("sign(240)", full.sign(240), -1);
        Checks.same("sign(greatest)", full.sign(Integer.MAX_VALUE), -1);
    }

    private static void signOfNone() {
        HiddenPeriods x = Checks.textOf("bcd");
        Checks.same("sign(2) of three", x.sign(2), 3);
        Checks.same("sign(3) of three", x.sign(3), -1);
        Checks.same("sign(239) of three", x.sign(239), -1);
        Checks.same("sign(240) of three", x.sign(240), -1);
        Checks.same("sign(0) of none", new HiddenPeriods().sign(0), -1);
        x.cut(1);
        Checks.same("sign(2) of what is cut", x.sign(2), -1);
        Checks.window(x, 1, 1);
        Checks.same("sign(0), which is not in the window", x.sign(0), 1);
    }

    private static void signBelow() {
        for (int place : new int[] {-1, -240, Integer.MIN_VALUE}) {
            Checks.refused("sign(" + place + ")", () -> Checks.textOf("abc"), Checks.ARGUMENT, x -> x.sign(place));
            Checks.refused("sign(" + place + ") of none", EMPTY, Checks.ARGUMENT, x -> x.sign(place));
        }
    }

    // ---- period

    private static void periodIs(HiddenPeriods x, int number, int... due) {
        for (int what = 0; what < due.length; what++) {
            Checks.same("period(" + number + ", " + what + ")", x.period(number, what), due[what]);
        }
    }

    private static void periodOfFour() {
        // 10 tenths: 4 of 8; 20 tenths: 4 of 4, and 2 of 4; 40 tenths: 2 of 2 each, but 1 of 2 of the class 3.
        HiddenPeriods x = kept("abacabad", 10, 0, 20, 0, 40, 0, 400, 399);
        periodIs(x, 0, 10, 0, 1, 4, 0, 0, 0);
        periodIs(x, 1, 20, 0, 2, 6, 2, 1, 4);
        periodIs(x, 2, 40, 0, 4, 7, 3, 3, 2);
        periodIs(x, 3, 400, 399, 40, 8, 4, 8, 2);
    }

    private static void periodNumbers() {
        HiddenPeriods x = kept("ab", 20, 1, 30, 2, 40, 3, 50, 4);
        for (int number = 0; number < 4; number++) {
            Checks.same("period(" + number + ", 0)", x.period(number, 0), 20 + 10 * number);
            Checks.same("period(" + number + ", 1)", x.period(number, 1), 1 + number);
        }
    }

    private static void periodTenths() {
        periodIs(kept("ab", 10, 9), 0, 10, 9);
        periodIs(kept("ab", 400, 0), 0, 400, 0);
        periodIs(kept("ab", 400, 399), 0, 400, 399);
        periodIs(windowed(kept("ab", 33, 12), 2, 1), 0, 33, 12);
    }

    private static void periodClasses() {
        int[][] due = {{10, 1}, {11, 2}, {20, 2}, {21, 3}, {25, 3}, {399, 40}, {400, 40}};
        for (int[] one : due) {
            Checks.same("the classes of " + one[0] + " tenths", kept("a", one[0], 9).period(0, 2), one[1]);
        }
    }

    private static void periodExplains() {
        Checks.same("of one sign", kept("d", 10, 0).period(0, 3), 1);
        Checks.same("of several", kept("abcabd", 30, 0).period(0, 3), 5);
        Checks.same("though no class is strong", strongBy(kept("abcd", 10, 0), 100).period(0, 3), 1);
        Checks.same("of a part", windowed(kept("abcabd", 30, 0), 2, 4).period(0, 3), 3);
        Checks.same("of an empty window", windowed(kept("abcabd", 30, 0), 6, 1).period(0, 3), 0);
        Checks.same("of all", kept("abcabd", 400, 0).period(0, 3), 6);
        HiddenPeriods x = Checks.rowOfMany(240);
        x.keep(400, 399);
        Checks.same("of 240", x.period(0, 3), 240);
    }

    private static void periodOdds() {
        Checks.same("of one sign", kept("d", 10, 0).period(0, 4), 0);
        Checks.same("of one class", kept("aabb", 10, 0).period(0, 4), 0);
        Checks.same("of two classes", kept("abab", 20, 0).period(0, 4), 2);
        Checks.same("of a part", windowed(kept("aaaaabab", 20, 0), 4, 4).period(0, 4), 2);
        Checks.same("of an empty window", windowed(kept("abab", 20, 0), 4, 1).period(0, 4), 0);
    }

    private static void periodStrong() {
        Checks.same("of one sign", strongBy(kept("d", 10, 0), 100).period(0, 5), 1);
        Checks.same("of 40 classes with one place", strongBy(kept("d", 400, 0), 1).period(0, 5), 1);
        Checks.same("of 3 of 4 by 75", kept("aaab", 10, 0).period(0, 5), 1);
        Checks.same("of 3 of 4 by 76", strongBy(kept("aaab", 10, 0), 76).period(0, 5), 0);
        Checks.same("of an empty window", windowed(kept("aaab", 10, 0), 4, 1).period(0, 5), 0);
        HiddenPeriods x = Checks.rowOfMany(240);
        x.keep(400, 0);
        Checks.same("of 40 classes", x.period(0, 5), 40);
    }

    private static void periodTells() {
        Checks.same("of the first one", kept("aaab", 10, 0, 40, 0).period(0, 6), 4);
        Checks.same("of the second one, behind one that tells all", kept("aaab", 10, 0, 40, 0).period(1, 6), 0);
        HiddenPeriods x = strongBy(kept("aaab", 10, 0, 40, 0), 76);
        Checks.same("of the first one, without a strong class", x.period(0, 6), 0);
        Checks.same("of the second one, behind one that tells none", x.period(1, 6), 4);
        Checks.same("of the window's places", windowed(x, 1, 2).period(0, 6), 2);
        Checks.same("of an empty window", windowed(x, 4, 1).period(0, 6), 0);
        // 20 tenths tell the places of the class 0, as the other class has 2 of 4.
        HiddenPeriods parts = kept("abacabad", 20, 0, 400, 0);
        Checks.same("of a part", parts.period(0, 6), 4);
        Checks.same("of the rest", parts.period(1, 6), 4);
        Checks.same("of what is told, though it is wrong", kept("aaab", 10, 0).period(0, 6), 4);
    }

    private static void periodReturns() {
        HiddenPeriods x = new HiddenPeriods();
        x.keep(25, 24);
        periodIs(x, 0, 25, 24, 3, 0, 0, 0, 0);
        HiddenPeriods full = Checks.rowOfMany(240);
        full.keep(10, 0);
        periodIs(full, 0, 10, 0, 1, 240, 0, 1, 240);
    }

    private static void periodNone() {
        for (int what : new int[] {0, 6, -1, 7}) {
            Checks.refused("period(0, " + what + ") of none", EMPTY, Checks.INDEX, x -> x.period(0, what));
            for (int number : Checks.outside(0, 1)) {
                Checks.refused("period(" + number + ", " + what + ") of two", () -> kept("ab", 20, 0, 30, 0), Checks.INDEX,
                    x -> x.period(number, what));
            }
        }
        Checks.refused("period(4, 0) of four", UndoBoundaries::full, Checks.INDEX, x -> x.period(4, 0));
        Checks.refused("period(1, 0) behind a drop", () -> {
            HiddenPeriods x = kept("ab", 20, 0, 30, 0);
            x.drop(1);
            return x;
        }, Checks.INDEX, x -> x.period(1, 0));
    }

    private static void periodOutOfRange() {
        for (int what : Checks.outside(0, 6)) {
            Checks.refused("period(0, " + what + ")", () -> kept("ab", 20, 0), Checks.ARGUMENT, x -> x.period(0, what));
        }
    }

    // ---- remainder

    private static void remaindersAre(HiddenPeriods x, int number, int group, int... due) {
        for (int sign = 0; sign < due.length; sign++) {
            String what = "remainder(" + number + ", " + group + ", " + sign + ")";
            Checks.same(what, x.remainder(number, group, sign), due[sign]);
        }
    }

    private static void remainderCounts() {
        HiddenPeriods x = kept("abacabadb", 20, 0, 20, 10);
        remaindersAre(x, 0, 0, 4, 1, 0, 0, 0);
        remaindersAre(x, 0, 1, 0, 2, 1, 1, 1);
        remaindersAre(x, 1, 1, 4, 1, 0, 0, 0);
        remaindersAre(x, 1, 0, 0, 2, 1, 1, 1);
        Checks.window(x, 3, 5);
        remaindersAre(x, 0, 0, 2, 0, 0, 0, 0);
        remaindersAre(x, 0, 1, 0, 1, 1, 1, 1);
        HiddenPeriods full = Checks.rowOfMany(240);
        full.keep(10, 0);
        remaindersAre(full, 0, 0, 240, 0, 0, 0, 0);
    }

    private static void remainderNumbers() {
        HiddenPeriods x = kept("ab", 10, 0, 20, 0, 30, 0, 40, 10);
        remaindersAre(x, 0, 0, 1, 1, 0, 0, 0);
        remaindersAre(x, 1, 0, 1, 0, 0, 0, 0);
        remaindersAre(x, 2, 1, 0, 1, 0, 0, 1);
        remaindersAre(x, 3, 2, 0, 1, 0, 0, 1);
    }

    private static void remainderClasses() {
        remaindersAre(kept("dd", 10, 0), 0, 0, 0, 0, 0, 2, 3);
        // (10 * p + 4) % 11 is 4, 3, 2, 1, 0, 10.
        remaindersAre(kept("aaaaac", 11, 4), 0, 1, 0, 0, 1, 0, 2);
        // (10 * p + 399) % 400 is 399, 9.
        HiddenPeriods x = kept("cd", 400, 399);
        remaindersAre(x, 0, 39, 0, 0, 1, 0, 2);
        remaindersAre(x, 0, 0, 0, 0, 0, 1, 3);
    }

    private static void remainderSigns() {
        HiddenPeriods x = kept("abbcccdddd", 10, 0);
        remaindersAre(x, 0, 0, 1, 2, 3, 4);
    }

    private static void remainderSignOfClass() {
        Checks.same("of one that is most", kept("abbcccdddd", 10, 0).remainder(0, 0, 4), 3);
        Checks.same("of several, the lowest", kept("ddccba", 10, 0).remainder(0, 0, 4), 2);
        Checks.same("though it is not strong", strongBy(kept("ddcba", 10, 0), 100).remainder(0, 0, 4), 3);
    }

    private static void remainderEmpty() {
        remaindersAre(kept("dd", 30, 0), 0, 2, 0, 0, 0, 0, -1);
        remaindersAre(windowed(kept("dd", 10, 0), 2, 1), 0, 0, 0, 0, 0, 0, -1);
        HiddenPeriods x = new HiddenPeriods();
        x.keep(400, 0);
        remaindersAre(x, 0, 0, 0, 0, 0, 0, -1);
        remaindersAre(x, 0, 39, 0, 0, 0, 0, -1);
    }

    private static void remainderNone() {
        for (int sign : new int[] {0, 4, -1, 5}) {
            Checks.refused("remainder(0, 0, " + sign + ") of none", EMPTY, Checks.INDEX, x -> x.remainder(0, 0, sign));
            for (int number : Checks.outside(0, 1)) {
                Checks.refused("remainder(" + number + ", 0, " + sign + ") of two", () -> kept("ab", 20, 0, 30, 0),
                    Checks.INDEX, x -> x.remainder(number, 0, sign));
            }
            for (int tenths : new int[] {10, 11, 20, 25, 391, 400}) {
                int classes = kept("ab", tenths, 0).period(0, 2);
                for (int group : Checks.outside(0, classes - 1)) {
                    Checks.refused("remainder(0, " + group + ", " + sign + ") of " + tenths, () -> kept("ab", tenths, 0),
                        Checks.INDEX, x -> x.remainder(0, group, sign));
                }
            }
        }
        Checks.refused("remainder(1, 0, 0) behind a drop", () -> {
            HiddenPeriods x = kept("ab", 20, 0, 30, 0);
            x.drop(1);
            return x;
        }, Checks.INDEX, x -> x.remainder(1, 0, 0));
        // The class 2 is one of the number 1, and none of the number 0.
        Checks.refused("remainder(0, 2, 0)", () -> kept("ab", 20, 0, 30, 0), Checks.INDEX, x -> x.remainder(0, 2, 0));
        Checks.same("remainder(1, 2, 0)", kept("ab", 20, 0, 30, 0).remainder(1, 2, 0), 0);
    }

    private static void remainderOutOfRange() {
        for (int sign : Checks.outside(0, 4)) {
            Checks.refused("remainder(0, 0, " + sign + ")", () -> kept("ab", 25, 0), Checks.ARGUMENT,
                x -> x.remainder(0, 0, sign));
            Checks.refused("remainder(0, 2, " + sign + ")", () -> kept("ab", 25, 0), Checks.ARGUMENT,
                x -> x.remainder(0, 2, sign));
        }
    }

    // ---- told

    private static void toldIs(HiddenPeriods x, int place, int... due) {
        for (int what = 0; what < 3; what++) {
            Checks.same("told(" + place + ", " + what + ")", x.told(place, what), due[what]);
        }
    }

    private static void toldAll() {
        HiddenPeriods x = kept("abacabad", 20, 0, 40, 0, 80, 0);
        toldIs(x, 0, 0, 0, 1);
        toldIs(x, 1, 1, 1, 1);
        toldIs(x, 3, 2, 2, 1);
        toldIs(x, 7, 3, 2, 1);
    }

    private static void toldPlaces() {
        toldIs(kept("d", 10, 0), 0, 3, 0, 1);
        HiddenPeriods full = Checks.rowOfMany(240);
        full.keep(400, 0);
        full.change(239, 3);
        full.change(0, 3);
        full.set(2, 80);
        toldIs(full, 1, 0, 0, 1);
        toldIs(full, 238, 0, 0, 1);
        // The classes of the places 0 and 239 have five others each: 5 of 6 are strong by 80.
        toldIs(full, 239, 0, 0, 0);
        toldIs(full, 0, 0, 0, 0);
    }

    private static void toldNotStrong() {
        toldIs(Checks.textOf("ab"), 0, -1, -1, 0);
        toldIs(kept("ab", 10, 0), 0, -1, -1, 0);
        toldIs(kept("ab", 10, 0), 1, -1, -1, 0);
        toldIs(strongBy(kept("ab", 10, 0), 50), 1, 0, 0, 0);
        toldIs(strongBy(kept("ab", 10, 0), 51), 1, -1, -1, 0);
        toldIs(kept("aaab", 10, 0), 3, 0, 0, 0);
        toldIs(kept("aab", 10, 0, 10, 5), 2, -1, -1, 0);
    }

    private static void toldOutside() {
        HiddenPeriods x = windowed(kept("aaaaa", 10, 0), 1, 3);
        toldIs(x, 0, -1, -1, 0);
        toldIs(x, 1, 0, 0, 1);
        toldIs(x, 3, 0, 0, 1);
        toldIs(x, 4, -1, -1, 0);
        HiddenPeriods behind = windowed(kept("aaaaa", 10, 0), 5, 3);
        toldIs(behind, 0, -1, -1, 0);
        toldIs(behind, 4, -1, -1, 0);
        HiddenPeriods whole = windowed(kept("aaaaa", 10, 0), 4, 0);
        toldIs(whole, 0, 0, 0, 1);
        toldIs(whole, 4, 0, 0, 1);
    }

    private static void toldBy() {
        HiddenPeriods x = kept("ab", 10, 0, 10, 1, 10, 2, 20, 0);
        Checks.same("told(0, 1), by the fourth one", x.told(0, 1), 3);
        x.drop(0);
        Checks.same("told(0, 1), by the third one", x.told(0, 1), 2);
        x.keep(20, 1);
        Checks.same("told(0, 1), by the first of two", x.told(0, 1), 2);
        x.drop(2);
        Checks.same("told(0, 1), by the other one", x.told(0, 1), 2);
        Checks.same("told(0, 1), by the first one of all that are strong", strongBy(x, 50).told(0, 1), 0);
        Checks.same("told(1, 1), by what tells it wrong", x.told(1, 1), 0);
        Checks.same("told(0, 1), by none", kept("ab", 10, 0).told(0, 1), -1);
        Checks.same("told(0, 1), out of the window", windowed(x, 1, 1).told(0, 1), -1);
    }

    private static void toldExplained() {
        Checks.same("of what is right", kept("aaab", 10, 0).told(0, 2), 1);
        Checks.same("of what is wrong", kept("aaab", 10, 0).told(3, 2), 0);
        Checks.same("of what is not strong", kept("aab", 10, 0).told(0, 2), 0);
        Checks.same("of what is out of the window", windowed(kept("aaab", 10, 0), 1, 2).told(0, 2), 0);
        Checks.same("of what the first one tells wrong, and the second one right",
            kept("aaab", 10, 0, 40, 0).told(3, 2), 0);
    }

    private static void toldReturns() {
        for (int sign = 0; sign < 4; sign++) {
            toldIs(kept("abcd", 40, 0), sign, sign, 0, 1);
        }
    }

    private static void toldNoPlace() {
        for (int what : new int[] {0, 1, 2, -1, 3}) {
            Checks.refused("told(0, " + what + ") of none", EMPTY, Checks.INDEX, x -> x.told(0, what));
            for (int place : Checks.outside(0, 2)) {
                Checks.refused("told(" + place + ", " + what + ")", () -> kept("abc", 10, 0), Checks.INDEX,
                    x -> x.told(place, what));
            }
            Checks.refused("told(240, " + what + ")", UndoBoundaries::full, Checks.INDEX, x -> x.told(240, what));
        }
        Checks.refused("told(2, 0) of what is cut", () -> {
            HiddenPeriods x = kept("abc", 10, 0);
            x.cut(1);
            return x;
        }, Checks.INDEX, x -> x.told(2, 0));
    }

    private static void toldOutOfRange() {
        for (int what : Checks.outside(0, 2)) {
            Checks.refused("told(0, " + what + ")", () -> kept("abc", 10, 0), Checks.ARGUMENT, x -> x.told(0, what));
            Checks.refused("told(0, " + what + ") out of the window", () -> windowed(kept("abc", 10, 0), 1, 1),
                Checks.ARGUMENT, x -> x.told(0, what));
        }
    }

    // ---- count

    private static void countsAre(HiddenPeriods x, int... due) {
        for (int what = 0; what < due.length; what++) {
            Checks.same("count(" + what + ")", x.count(what), due[what]);
        }
    }

    private static void countIs(String of, HiddenPeriods x, int what, int due) {
        Checks.same("count(" + what + ") of " + of, x.count(what), due);
    }

    private static void countOfEmpty() {
        countsAre(new HiddenPeriods(), 0, 0, 0, 0, 0, 0, -1, 0, 0, 0);
    }

    private static void countOfFull() {
        HiddenPeriods x = Checks.rowOfMany(240);
        x.keep(400, 399);
        countsAre(x, 240, 240, 0, 1, 240, 0, 0, 240, 240, 2);
        countsAre(windowed(x, 239, 240), 240, 1, 239, 1, 1, 0, 0, 1, 1, 4);
    }

    private static void countSigns() {
        countIs("none", new HiddenPeriods(), 0, 0);
        countIs("one", Checks.textOf("d"), 0, 1);
        countIs("240", Checks.rowOfMany(240), 0, 240);
        countIs("three, with a window of one", windowed(Checks.textOf("abc"), 0, 1), 0, 3);
    }

    private static void countPlaces() {
        countIs("three", Checks.textOf("abc"), 1, 3);
        countIs("three, from 1 on, two", windowed(Checks.textOf("abc"), 1, 2), 1, 2);
        countIs("three, from 1 on, three", windowed(Checks.textOf("abc"), 1, 3), 1, 2);
        countIs("three, from 2 on, 240", windowed(Checks.textOf("abc"), 2, 240), 1, 1);
        countIs("three, from 3 on, one", windowed(Checks.textOf("abc"), 3, 1), 1, 0);
        countIs("three, from 239 on, 240", windowed(Checks.textOf("abc"), 239, 240), 1, 0);
        countIs("three, setting 1 is 0", windowed(Checks.textOf("abc"), 2, 0), 1, 3);
    }

    private static void countBegin() {
        countIs("three", Checks.textOf("abc"), 2, 0);
        countIs("three, setting 1 is 0", windowed(Checks.textOf("abc"), 2, 0), 2, 0);
        countIs("three, setting 1 is 1", windowed(Checks.textOf("abc"), 2, 1), 2, 2);
        countIs("three, from 3 on", windowed(Checks.textOf("abc"), 3, 1), 2, 3);
        countIs("three, from 239 on", windowed(Checks.textOf("abc"), 239, 240), 2, 239);
        countIs("none, from 239 on", windowed(new HiddenPeriods(), 239, 1), 2, 239);
        countIs("none, from 239 on, setting 1 is 0", windowed(new HiddenPeriods(), 239, 0), 2, 0);
    }

    private static void countKept() {
        countIs("none", Checks.textOf("abc"), 3, 0);
        countIs("one", kept("abc", 10, 0), 3, 1);
        countIs("four", kept("abc", 10, 0, 20, 0, 30, 0, 40, 0), 3, 4);
    }

    private static void countExplained() {
        countIs("what no period tells", Checks.textOf("abc"), 4, 0);
        countIs("3 of 4", kept("aaab", 10, 0), 4, 3);
        countIs("3 of 4, but not strong", strongBy(kept("aaab", 10, 0), 76), 4, 0);
        countIs("two periods, the first one of which is strong", kept("aaab", 10, 0, 40, 0), 4, 3);
        countIs("two periods, the second one of which is strong", kept("aab", 10, 0, 30, 0), 4, 3);
        countIs("the window alone", windowed(kept("aaab", 10, 0), 1, 2), 4, 2);
        countIs("an empty window", windowed(kept("aaab", 10, 0), 4, 2), 4, 0);
    }

    private static void countNotTold() {
        countIs("what no period tells", Checks.textOf("abc"), 5, 3);
        countIs("what is told wrong too", kept("aaab", 10, 0), 5, 0);
        countIs("what is not strong", kept("aab", 10, 0), 5, 3);
        countIs("what is strong in part", kept("abacabad", 20, 0), 5, 4);
        countIs("what the second one tells", kept("abacabad", 20, 0, 80, 0), 5, 0);
        countIs("the window alone", windowed(Checks.textOf("abc"), 1, 1), 5, 1);
        countIs("an empty window", windowed(Checks.textOf("abc"), 3, 1), 5, 0);
        countIs("an empty row", new HiddenPeriods(), 5, 0);
    }

    private static void countCommon() {
        countIs("an empty row", new HiddenPeriods(), 6, -1);
        countIs("an empty window", windowed(Checks.textOf("abc"), 3, 1), 6, -1);
        countIs("one", Checks.textOf("d"), 6, 3);
        countIs("several, the lowest", Checks.textOf("dcb"), 6, 1);
        countIs("two and two, the lowest", Checks.textOf("ddccb"), 6, 2);
        countIs("two and three", Checks.textOf("aaddd"), 6, 3);
        countIs("the window alone", windowed(Checks.textOf("aadda"), 2, 2), 6, 3);
    }

    private static void countOfCommon() {
        countIs("an empty row", new HiddenPeriods(), 7, 0);
        countIs("an empty window", windowed(Checks.textOf("abc"), 3, 1), 7, 0);
        countIs("one", Checks.textOf("d"), 7, 1);
        countIs("several", Checks.textOf("dcb"), 7, 1);
        countIs("two and three", Checks.textOf("aaddd"), 7, 3);
        countIs("the window alone", windowed(Checks.textOf("aadda"), 2, 3), 7, 2);
        countIs("240", Checks.rowOfMany(240), 7, 240);
    }

    private static void countStretch() {
        countIs("an empty row", new HiddenPeriods(), 8, 0);
        countIs("what no period tells", Checks.textOf("aaa"), 8, 0);
        countIs("all", kept("aaa", 10, 0), 8, 3);
        countIs("the first stretch", strongBy(kept("aaabaab", 10, 0), 60), 8, 3);
        countIs("the last stretch", strongBy(kept("aabaaba" + "aa", 10, 0), 60), 8, 3);
        countIs("the inner stretch", strongBy(kept("abaaba", 10, 0), 60), 8, 2);
        countIs("a window in a stretch", windowed(strongBy(kept("aaaaab", 10, 0), 60), 1, 3), 8, 3);
        countIs("an empty window", windowed(kept("aaaaab", 10, 0), 6, 3), 8, 0);
        HiddenPeriods full = Checks.rowOfMany(240);
        full.keep(10, 0);
        countIs("240", full, 8, 240);
    }

    private static void countSaved() {
        countIs("a new one", new HiddenPeriods(), 9, 0);
        countIs("one", Checks.textOf("abc"), 9, 1);
        countIs("six", Checks.rowOf("abcabc"), 9, 6);
        countIs("seven", Checks.rowOf("abcabca"), 9, 6);
        HiddenPeriods x = Checks.rowOf("abcabca");
        x.undo();
        countIs("six less one", x, 9, 5);
    }

    private static void countOutOfRange() {
        for (int what : Checks.outside(0, 9)) {
            Checks.refused("count(" + what + ")", () -> kept("abc", 10, 0), Checks.ARGUMENT, x -> x.count(what));
            Checks.refused("count(" + what + ") of none", EMPTY, Checks.ARGUMENT, x -> x.count(what));
        }
    }

    // ---- setting

    private static void settingOne() {
        HiddenPeriods x = new HiddenPeriods();
        x.set(0, 11);
        x.set(1, 22);
        x.set(2, 33);
        for (int setting = 0; setting < 3; setting++) {
            Checks.same("setting(" + setting + ")", x.setting(setting), 11 * (setting + 1));
        }
    }

    private static void settings() {
        HiddenPeriods x = new HiddenPeriods();
        Checks.same("setting(0)", x.setting(0), 0);
        Checks.same("setting(1)", x.setting(1), 0);
        Checks.same("setting(2)", x.setting(2), 75);
    }

    private static void settingReturns() {
        int[][] edges = {{0, 239}, {1, 240}, {2, 100}, {0, 0}, {1, 0}, {2, 1}};
        HiddenPeriods x = new HiddenPeriods();
        for (int[] edge : edges) {
            x.set(edge[0], edge[1]);
            Checks.same("setting(" + edge[0] + ")", x.setting(edge[0]), edge[1]);
        }
    }

    private static void settingNone() {
        for (int setting : Checks.outside(0, 2)) {
            Checks.refused("setting(" + setting + ")", EMPTY, Checks.INDEX, x -> x.setting(setting));
        }
    }

    // ---- all of them

    private static void looksChangeNothing() {
        Supplier<HiddenPeriods> full = UndoBoundaries::full;
        HiddenPeriods x = full.get();
        x.sign(3);
        x.sign(240);
        for (int what = 0; what < 7; what++) {
            x.period(2, what);
        }
        x.remainder(1, 1, 4);
        x.remainder(1, 1, 0);
        for (int what = 0; what < 3; what++) {
            x.told(5, what);
            x.setting(what);
        }
        for (int what = 0; what < 10; what++) {
            x.count(what);
        }
        Checks.alikeToTheirBegins("behind looks", x, full.get());
    }
}
