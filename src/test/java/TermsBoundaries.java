import java.util.function.Supplier;

/** The boundaries of the document's terms: the row, the window, periods, findings, settings and texts. */
final class TermsBoundaries {
    private TermsBoundaries() {
    }

    static void all(Sentences the) {
        the.of("What it is");
        the.sentence("An object is used for at most 512 calls after it has been made", TermsBoundaries::manyCalls);

        the.of("Terms");
        the.sentence("All numbers are integers, but for a share; divisions are rounded down.", TermsBoundaries::roundedDown);

        the.of("The row");
        the.sentence("The row has at most 240 signs, numbered from 0;", TermsBoundaries::fullRow);
        the.sentence("each is 0 to 3, written as \"a\" to \"d\".", TermsBoundaries::signsAsLetters);
        the.sentence("At first it is empty.", TermsBoundaries::emptyRow);
        the.sentence("if setting 1 is 0, the whole row;", TermsBoundaries::wholeRow);
        the.sentence("otherwise it begins at the place setting 0, and has setting 1 places,", TermsBoundaries::windowInTheRow);
        the.sentence("as far as the row goes", TermsBoundaries::windowAsFarAsTheRow);
        the.sentence("(none, if it does not go so far)", TermsBoundaries::windowBehindTheRow);

        the.of("Periods");
        the.sentence("A period has tenths, 10 to 400, and a phase, 0 to less than its tenths.", TermsBoundaries::periods);
        the.sentence("The place p stands, for a period, at the remainder of (10 * p + its phase) divided by its tenths;",
            TermsBoundaries::remaindersWrap);
        the.sentence("its class is this remainder divided by 10.", TermsBoundaries::classesOfRemainders);
        the.sentence("So a period of 25 tenths has the classes 0, 1 and 2, of which the last one takes half as many places;",
            TermsBoundaries::classesOf25);
        the.sentence("a drift of tenths moves the places.", TermsBoundaries::drift);
        the.sentence("is how many places of the window have the class and the sign.", TermsBoundaries::countsInTheWindow);
        the.sentence("The sign of a class is the one with the greatest count, of several the lowest one;",
            TermsBoundaries::signOfAClass);
        the.sentence("NONE for a class without places in the window.", TermsBoundaries::classWithoutPlaces);
        the.sentence("A period explains a place of the window if the sign there is the sign of the class.",
            TermsBoundaries::explainsOfTheWindow);

        the.of("Findings");
        the.sentence("At most 4 periods are kept, numbered from 0 in the order in which they came",
            TermsBoundaries::fourPeriods);
        the.sentence("(if one is dropped, those behind it have numbers that are less by 1)", TermsBoundaries::droppedNumbers);
        the.sentence("They explain a place together if the first one, by their numbers, whose class of this place is strong, "
            + "explains it;", TermsBoundaries::theFirstStrongOne);
        the.sentence("a class is strong if it has a sign,", TermsBoundaries::noSignIsNotStrong);
        the.sentence("and 100 times the count of that is at least setting 2 times the places that have the class in the window.",
            TermsBoundaries::justStrong);
        the.sentence("A place of which no kept period has a strong class is not explained.", TermsBoundaries::noneStrong);
        the.sentence("The odds of a period are what it explains, less what would be explained without it:",
            TermsBoundaries::odds);
        the.sentence("how many places of the window have the sign that is most common in the window (of several the lowest).",
            TermsBoundaries::oddsOfSeveral);

        the.of("Settings");
        the.sentence("0: the first place of the window, 0 to 239, at first 0;", () -> settingIs(0, 0, 239, 0));
        the.sentence("1: its places, 0 to 240, at first 0;", () -> settingIs(1, 0, 240, 0));
        the.sentence("2: hundredths that make a class strong, 1 to 100, at first 75.", () -> settingIs(2, 1, 100, 75));

        the.of("Input text");
        the.sentence("The buffer has at most 60 characters.", TermsBoundaries::fullBuffer);
        the.sentence("Signs as a text are one or more parts, side by side, each a letter \"a\" to \"d\", or a group:",
            TermsBoundaries::parts);
        the.sentence("\"(\", one or more letters, \")\" and how often the letters come, 2 to 9.", TermsBoundaries::groups);
        the.sentence("The buffer is read from left to right;", TermsBoundaries::leftToRight);
        the.sentence("a character is a syntax error if no signs as a text, of any length, begin with the characters before it "
            + "and this character.", TermsBoundaries::ofAnyLength);
    }

    // ---- what it is, terms

    private static void manyCalls() {
        HiddenPeriods x = new HiddenPeriods();
        for (int i = 0; i < 240; i++) {
            x.put(i % 3);
        }
        x.keep(30, 0);
        for (int i = 0; i < 90; i++) {
            x.change(i, 3);
            x.undo();
        }
        for (int i = 0; i < 89; i++) {
            x.count(4);
        }
        Checks.same("the 511th call, count(4)", x.count(4), 240);
        HiddenPeriods y = new HiddenPeriods();
        y.grow(30, 240, 0);
        y.keep(30, 0);
        for (int i = 0; i < 3; i++) {
            y.set(2, 75);
        }
        Checks.same("the 512th call, digest()", x.digest(), y.digest());
    }

    private static void roundedDown() {
        classIs(0, 20, 9, 0);
        classIs(0, 20, 19, 1);
        HiddenPeriods x = Checks.textOf("aab");
        x.keep(10, 0);
        x.set(2, 66);
        Checks.same("share() is not rounded", x.share(), 2.0 / 3.0);
    }

    // ---- the row

    private static void fullRow() {
        HiddenPeriods x = new HiddenPeriods();
        for (int i = 0; i < 240; i++) {
            Checks.same("put, the " + (i + 1) + "th", x.put(i % 4), i + 1);
        }
        for (int place : new int[] {0, 1, 238, 239}) {
            Checks.same("sign(" + place + ")", x.sign(place), place % 4);
        }
        Checks.same("sign(240)", x.sign(240), -1);
        Checks.same("change(239, 0)", x.change(239, 0), 3);
        Supplier<HiddenPeriods> full = () -> Checks.rowOfMany(240);
        Checks.refused("put(0) of a full row", full, Checks.STATE, y -> y.put(0));
        Checks.refused("grow(10, 1, 0) of a full row", full, Checks.STATE, y -> y.grow(10, 1, 0));
        Checks.refused("change(240, 0) of a full row", full, Checks.INDEX, y -> y.change(240, 0));
        Checks.refused("putAll() of a full row", () -> {
            HiddenPeriods y = Checks.rowOfMany(240);
            y.append('a');
            return y;
        }, Checks.STATE, y -> y.putAll());
    }

    private static void signsAsLetters() {
        HiddenPeriods x = Checks.textOf("abcd");
        for (int place = 0; place < 4; place++) {
            Checks.same("sign(" + place + ") of abcd", x.sign(place), place);
        }
        Checks.refused("put(4)", HiddenPeriods::new, Checks.ARGUMENT, y -> y.put(4));
        Checks.refused("put(-1)", HiddenPeriods::new, Checks.ARGUMENT, y -> y.put(-1));
    }

    private static void emptyRow() {
        HiddenPeriods x = new HiddenPeriods();
        Checks.same("count(0)", x.count(0), 0);
        Checks.same("sign(0)", x.sign(0), -1);
        Checks.refused("change(0, 0)", HiddenPeriods::new, Checks.INDEX, y -> y.change(0, 0));
        Checks.refused("told(0, 0)", HiddenPeriods::new, Checks.INDEX, y -> y.told(0, 0));
    }

    private static void windowIs(String what, HiddenPeriods x, int first, int places) {
        Checks.same("the window's begin, " + what, x.count(2), first);
        Checks.same("the window's places, " + what, x.count(1), places);
        // In the rows that are asked for, all places of a class of 400 tenths have the same sign.
        Checks.same("explained of the window, " + what, x.explains(400, 0), places);
    }

    private static void wholeRow() {
        HiddenPeriods x = Checks.textOf("abcdabcdabcd");
        windowIs("at first", x, 0, 12);
        for (int first : new int[] {1, 11, 12, 239}) {
            x.set(0, first);
            windowIs("setting 0 is " + first + ", setting 1 is 0", x, 0, 12);
            Checks.same("explains(120, 0)", x.explains(120, 0), 12);
        }
        HiddenPeriods none = new HiddenPeriods();
        windowIs("of an empty row", none, 0, 0);
        none.set(0, 239);
        windowIs("of an empty row, setting 0 is 239", none, 0, 0);
        HiddenPeriods full = Checks.rowOfMany(240);
        full.set(0, 239);
        windowIs("of a full row", full, 0, 240);
    }

    private static void windowInTheRow() {
        HiddenPeriods x = Checks.textOf("abcdabcdabcd");
        Checks.window(x, 0, 1);
        windowIs("0, 1", x, 0, 1);
        Checks.same("its sign", x.count(6), 0);
        Checks.window(x, 5, 1);
        windowIs("5, 1", x, 5, 1);
        Checks.same("its sign", x.count(6), 1);
        Checks.window(x, 11, 1);
        windowIs("11, 1", x, 11, 1);
        Checks.same("its sign", x.count(6), 3);
        Checks.window(x, 0, 11);
        windowIs("0, 11", x, 0, 11);
        Checks.window(x, 0, 12);
        windowIs("0, 12", x, 0, 12);
        Checks.window(x, 1, 11);
        windowIs("1, 11", x, 1, 11);
        // The places 3 to 6 are d a b c.
        Checks.window(x, 3, 4);
        windowIs("3, 4", x, 3, 4);
        x.keep(40, 0);
        Checks.same("told(2, 0)", x.told(2, 0), -1);
        Checks.same("told(3, 0)", x.told(3, 0), 3);
        Checks.same("told(6, 0)", x.told(6, 0), 2);
        Checks.same("told(7, 0)", x.told(7, 0), -1);
    }

    private static void windowAsFarAsTheRow() {
        HiddenPeriods x = Checks.textOf("abcdabcdabcd");
        Checks.window(x, 5, 7);
        windowIs("just to the end", x, 5, 7);
        x.set(1, 8);
        windowIs("one too many", x, 5, 7);
        x.set(1, 240);
        windowIs("240", x, 5, 7);
        x.set(0, 0);
        windowIs("240 from 0 on", x, 0, 12);
        Checks.window(x, 10, 3);
        windowIs("10, 3 of 12", x, 10, 2);
        x.put(0);
        windowIs("10, 3 of 13", x, 10, 3);
        x.put(0);
        windowIs("10, 3 of 14", x, 10, 3);
        x.cut(3);
        windowIs("10, 3 of 11", x, 10, 1);
        x.cut(1);
        windowIs("10, 3 of 10", x, 10, 0);
        HiddenPeriods full = Checks.rowOfMany(240);
        Checks.window(full, 239, 240);
        windowIs("239, 240 of a full row", full, 239, 1);
        Checks.window(full, 0, 240);
        windowIs("0, 240 of a full row", full, 0, 240);
    }

    private static void windowBehindTheRow() {
        HiddenPeriods x = Checks.textOf("abcdabcdabcd");
        x.keep(10, 0);
        x.set(2, 1);
        x.set(1, 3);
        for (int first : new int[] {12, 13, 15, 239}) {
            x.set(0, first);
            windowIs("from " + first + " on", x, first, 0);
            Checks.same("explains(400, 0)", x.explains(400, 0), 0);
            Checks.same("its most common sign", x.count(6), -1);
            Checks.same("told(11, 1)", x.told(11, 1), -1);
            Checks.same("share()", x.share(), 1.0);
        }
        x.set(0, 11);
        windowIs("from 11 on", x, 11, 1);
        HiddenPeriods none = new HiddenPeriods();
        none.set(1, 1);
        windowIs("of an empty row", none, 0, 0);
    }

    // ---- periods

    private static void periods() {
        int[][] kept = {{10, 0}, {10, 9}, {400, 0}, {400, 399}, {11, 10}};
        for (int[] one : kept) {
            HiddenPeriods x = Checks.textOf("ab");
            String what = one[0] + ", " + one[1];
            Checks.same("keep(" + what + ")", x.keep(one[0], one[1]), 0);
            Checks.same("its tenths", x.period(0, 0), one[0]);
            Checks.same("its phase", x.period(0, 1), one[1]);
            Checks.same("explains(" + what + ")", x.explains(one[0], one[1]), one[0] == 10 ? 1 : 2);
        }
        int[][] wrong = {{9, 0}, {401, 0}, {10, -1}, {10, 10}, {400, 400}, {11, 11}, {400, -1}};
        for (int[] one : wrong) {
            String what = one[0] + ", " + one[1];
            Checks.refused("keep(" + what + ")", HiddenPeriods::new, Checks.ARGUMENT, x -> x.keep(one[0], one[1]));
            Checks.refused("explains(" + what + ")", HiddenPeriods::new, Checks.ARGUMENT, x -> x.explains(one[0], one[1]));
        }
    }

    // The class of a place is the one that has a count, if the window is this place alone.
    private static void classIs(int place, int tenths, int phase, int due) {
        HiddenPeriods x = Checks.rowOfMany(240);
        x.keep(tenths, phase);
        Checks.window(x, place, 1);
        int found = -1;
        for (int group = 0; group < x.period(0, 2); group++) {
            if (x.remainder(0, group, 0) == 1) {
                found = group;
            }
        }
        Checks.same("the class of the place " + place + " by " + tenths + " tenths and the phase " + phase, found, due);
    }

    private static void remaindersWrap() {
        classIs(1, 25, 4, 1);
        classIs(1, 25, 14, 2);
        // 10 + 15 is the first that is 25 or more.
        classIs(1, 25, 15, 0);
        classIs(2, 25, 4, 2);
        classIs(2, 25, 5, 0);
        classIs(1, 11, 0, 1);
        classIs(1, 11, 1, 0);
        classIs(11, 11, 0, 0);
        classIs(11, 11, 10, 1);
        // 2390 + 9 is 2399, which leaves 399; 2400 leaves 0.
        classIs(239, 400, 9, 39);
        classIs(239, 400, 10, 0);
        classIs(39, 400, 0, 39);
        classIs(39, 400, 10, 0);
        classIs(40, 400, 0, 0);
        classIs(239, 400, 399, 38);
        classIs(239, 10, 9, 0);
        // 2390 + 398 is 2788, which leaves 394 behind 6 times 399.
        classIs(239, 399, 398, 39);
    }

    private static void classesOfRemainders() {
        classIs(0, 25, 9, 0);
        classIs(0, 25, 10, 1);
        classIs(0, 25, 19, 1);
        classIs(0, 25, 20, 2);
        classIs(0, 25, 24, 2);
        classIs(0, 11, 9, 0);
        classIs(0, 11, 10, 1);
        classIs(0, 400, 389, 38);
        classIs(0, 400, 390, 39);
        classIs(0, 400, 399, 39);
    }

    private static void classesOf25() {
        HiddenPeriods x = Checks.rowOfMany(240);
        x.keep(25, 0);
        Checks.same("the classes of 25 tenths", x.period(0, 2), 3);
        Checks.same("the places of the class 0", x.remainder(0, 0, 0), 96);
        Checks.same("the places of the class 1", x.remainder(0, 1, 0), 96);
        Checks.same("the places of the class 2", x.remainder(0, 2, 0), 48);
        Checks.refused("remainder(0, 3, 0)", () -> {
            HiddenPeriods y = Checks.rowOfMany(240);
            y.keep(25, 0);
            return y;
        }, Checks.INDEX, y -> y.remainder(0, 3, 0));
        int[][] classes = {{10, 1}, {11, 2}, {19, 2}, {20, 2}, {21, 3}, {390, 39}, {391, 40}, {400, 40}};
        for (int[] one : classes) {
            HiddenPeriods y = new HiddenPeriods();
            y.keep(one[0], 0);
            Checks.same("the classes of " + one[0] + " tenths", y.period(0, 2), one[1]);
        }
    }

    // 10 * 30 leaves 0, 10 and 21, divided by 30, 29 and 31; 10 * 29 and 10 * 31 leave 0, divided by 29 and 31.
    private static void drift() {
        classIs(30, 30, 0, 0);
        classIs(30, 29, 0, 1);
        classIs(30, 31, 0, 2);
        classIs(27, 29, 0, 0);
        classIs(28, 29, 0, 1);
        classIs(29, 29, 0, 0);
        classIs(30, 31, 10, 0);
        classIs(31, 31, 0, 0);
    }

    private static void countsInTheWindow() {
        HiddenPeriods x = Checks.textOf("aabaa");
        x.keep(20, 0);
        Checks.same("class 0, a, of the row", x.remainder(0, 0, 0), 2);
        Checks.same("class 0, b, of the row", x.remainder(0, 0, 1), 1);
        Checks.same("class 1, a, of the row", x.remainder(0, 1, 0), 2);
        Checks.window(x, 1, 3);
        Checks.same("class 0, a, of the places 1 to 3", x.remainder(0, 0, 0), 0);
        Checks.same("class 0, b, of the places 1 to 3", x.remainder(0, 0, 1), 1);
        Checks.same("class 1, a, of the places 1 to 3", x.remainder(0, 1, 0), 2);
        Checks.same("class 1, b, of the places 1 to 3", x.remainder(0, 1, 1), 0);
        Checks.window(x, 2, 1);
        Checks.same("class 1, a, of the place 2", x.remainder(0, 1, 0), 0);
    }

    private static void signOfAClass() {
        String[] rows = {"dcba", "dcb", "dc", "d", "ddcba", "ccbb", "bbaa", "abb", "cdbdb", "aab"};
        int[] due = {0, 1, 2, 3, 3, 1, 0, 1, 1, 0};
        for (int i = 0; i < rows.length; i++) {
            HiddenPeriods x = Checks.textOf(rows[i]);
            x.keep(10, 0);
            Checks.same("the sign of the one class of " + rows[i], x.remainder(0, 0, 4), due[i]);
        }
    }

    private static void classWithoutPlaces() {
        HiddenPeriods x = Checks.textOf("dd");
        x.keep(30, 0);
        Checks.same("the sign of the class 1", x.remainder(0, 1, 4), 3);
        Checks.same("the sign of the class 2", x.remainder(0, 2, 4), -1);
        Checks.same("its count of a", x.remainder(0, 2, 0), 0);
        Checks.same("its count of d", x.remainder(0, 2, 3), 0);
        Checks.window(x, 1, 1);
        Checks.same("the sign of the class 0, of the place 1", x.remainder(0, 0, 4), -1);
        Checks.same("the sign of the class 1, of the place 1", x.remainder(0, 1, 4), 3);
        Checks.window(x, 2, 1);
        Checks.same("the sign of the class 1, of no place", x.remainder(0, 1, 4), -1);
        HiddenPeriods none = new HiddenPeriods();
        none.keep(10, 0);
        Checks.same("the sign of the class 0 of an empty row", none.remainder(0, 0, 4), -1);
    }

    private static void explainsOfTheWindow() {
        HiddenPeriods x = Checks.textOf("bababb");
        Checks.same("explains(20, 0) of all", x.explains(20, 0), 5);
        Checks.window(x, 4, 2);
        Checks.same("explains(20, 0) of the last two", x.explains(20, 0), 2);
        Checks.window(x, 0, 1);
        Checks.same("explains(20, 0) of the first one", x.explains(20, 0), 1);
        Checks.window(x, 6, 1);
        Checks.same("explains(20, 0) of no place", x.explains(20, 0), 0);
    }

    // ---- findings

    private static HiddenPeriods fourKept() {
        HiddenPeriods x = Checks.textOf("abcabd");
        x.keep(20, 1);
        x.keep(30, 0);
        x.keep(10, 3);
        x.keep(400, 399);
        return x;
    }

    private static void keptAre(HiddenPeriods x, int... due) {
        Checks.same("kept", x.count(3), due.length);
        for (int number = 0; number < due.length && number < x.count(3); number++) {
            Checks.same("the tenths of the number " + number, x.period(number, 0), due[number]);
        }
    }

    private static void fourPeriods() {
        keptAre(fourKept(), 20, 30, 10, 400);
        Checks.refused("a fifth, by keep", TermsBoundaries::fourKept, Checks.STATE, x -> x.keep(50, 0));
        Checks.refused("a fifth, by find", TermsBoundaries::fourKept, Checks.STATE, x -> x.find(50, 60));
        Checks.refused("the number 4", TermsBoundaries::fourKept, Checks.INDEX, x -> x.period(4, 0));
        HiddenPeriods x = new HiddenPeriods();
        x.find(77, 78);
        Checks.same("the second number", x.keep(30, 0), 1);
        keptAre(x, 77, 30);
    }

    private static void droppedNumbers() {
        int[][] due = {{30, 10, 400}, {20, 10, 400}, {20, 30, 400}, {20, 30, 10}};
        for (int number = 0; number < 4; number++) {
            HiddenPeriods x = fourKept();
            Checks.same("drop(" + number + ")", x.drop(number), 3);
            keptAre(x, due[number]);
            Checks.same("one that is kept then", x.keep(55, 0), 3);
            Checks.same("its tenths", x.period(3, 0), 55);
        }
    }

    private static void theFirstStrongOne() {
        HiddenPeriods x = Checks.textOf("aab");
        x.set(2, 66);
        x.keep(10, 0);
        x.keep(30, 0);
        // The place 2 is explained by the number 1 alone, but the number 0 has a strong class of it.
        Checks.same("explained", x.count(4), 2);
        Checks.same("told(2, 0)", x.told(2, 0), 0);
        Checks.same("told(2, 1)", x.told(2, 1), 0);
        Checks.same("told(2, 2)", x.told(2, 2), 0);
        x.drop(0);
        x.keep(10, 0);
        Checks.same("explained, the other way round", x.count(4), 3);
        Checks.same("told(2, 0), the other way round", x.told(2, 0), 1);
        Checks.same("told(2, 1), the other way round", x.told(2, 1), 0);
        x.drop(0);
        x.keep(30, 0);
        x.set(2, 67);
        Checks.same("explained, as the first one has no strong class", x.count(4), 3);
        Checks.same("told(2, 1), as the first one has no strong class", x.told(2, 1), 1);
        HiddenPeriods y = Checks.textOf("aab");
        y.keep(10, 0);
        y.keep(10, 1);
        y.keep(10, 2);
        y.keep(30, 0);
        Checks.same("told(2, 1), by the last of four", y.told(2, 1), 3);
    }

    private static void noSignIsNotStrong() {
        HiddenPeriods x = Checks.textOf("ab");
        x.set(2, 1);
        x.keep(400, 0);
        Checks.same("strong classes of two places", x.period(0, 5), 2);
        Checks.window(x, 1, 1);
        Checks.same("strong classes of one place", x.period(0, 5), 1);
        Checks.window(x, 2, 1);
        Checks.same("strong classes of no place", x.period(0, 5), 0);
        HiddenPeriods none = new HiddenPeriods();
        none.keep(10, 0);
        Checks.same("strong classes of an empty row", none.period(0, 5), 0);
    }

    private static void strongAt(String text, int hundredths, int due) {
        HiddenPeriods x = Checks.textOf(text);
        x.keep(10, 0);
        x.set(2, hundredths);
        Checks.same("strong classes of " + text + " by " + hundredths, x.period(0, 5), due);
        Checks.same("told by " + hundredths + " of " + text, x.told(0, 1), due - 1);
    }

    private static void justStrong() {
        strongAt("aaab", 75, 1);
        strongAt("aaab", 76, 0);
        strongAt("aab", 66, 1);
        strongAt("aab", 67, 0);
        strongAt("ab", 50, 1);
        strongAt("ab", 51, 0);
        strongAt("abcd", 25, 1);
        strongAt("abcd", 26, 0);
        strongAt("abcd", 1, 1);
        strongAt("(a)9", 100, 1);
        strongAt("(aaaaa)9aaab", 97, 1);
        strongAt("(aaaaa)9aaab", 98, 0);
        HiddenPeriods x = Checks.rowOfMany(239);
        x.put(1);
        x.keep(10, 0);
        x.set(2, 99);
        Checks.same("strong classes, 239 of 240, by 99", x.period(0, 5), 1);
        x.set(2, 100);
        Checks.same("strong classes, 239 of 240, by 100", x.period(0, 5), 0);
        Checks.window(x, 0, 239);
        Checks.same("strong classes, 239 of the window's 239, by 100", x.period(0, 5), 1);
        Checks.window(x, 238, 2);
        x.set(2, 51);
        Checks.same("strong classes, 1 of the window's 2, by 51", x.period(0, 5), 0);
    }

    private static void noneStrong() {
        HiddenPeriods x = Checks.textOf("ab");
        Checks.same("explained without periods", x.count(4), 0);
        Checks.same("not told without periods", x.count(5), 2);
        x.keep(10, 0);
        Checks.same("explained", x.count(4), 0);
        Checks.same("not told", x.count(5), 2);
        Checks.same("told(0, 0)", x.told(0, 0), -1);
        Checks.same("told(0, 1)", x.told(0, 1), -1);
        Checks.same("told(0, 2)", x.told(0, 2), 0);
        Checks.same("share()", x.share(), 0.0);
        Checks.same("mend()", x.mend(), 0);
        x.keep(10, 1);
        Checks.same("explained by neither of two", x.count(4), 0);
        Checks.same("told(1, 2) by neither of two", x.told(1, 2), 0);
    }

    private static void oddsAre(String text, int tenths, int due) {
        HiddenPeriods x = Checks.textOf(text);
        x.keep(tenths, 0);
        Checks.same("the odds of " + tenths + " tenths of " + text, x.period(0, 4), due);
    }

    private static void odds() {
        oddsAre("abcabc", 30, 4);
        oddsAre("abcabc", 10, 0);
        oddsAre("bbbb", 10, 0);
        oddsAre("bbbb", 40, 0);
        oddsAre("bbab", 40, 1);
        HiddenPeriods x = Checks.textOf("abcabcaaaa");
        x.keep(30, 0);
        Checks.same("the odds, of the row", x.period(0, 4), 8 - 6);
        Checks.window(x, 0, 6);
        Checks.same("the odds, of the window", x.period(0, 4), 6 - 2);
        Checks.window(x, 10, 6);
        Checks.same("the odds, of an empty window", x.period(0, 4), 0);
        HiddenPeriods none = new HiddenPeriods();
        none.keep(20, 0);
        Checks.same("the odds, of an empty row", none.period(0, 4), 0);
    }

    private static void oddsOfSeveral() {
        oddsAre("ddcc", 40, 2);
        oddsAre("ddcc", 10, 0);
        oddsAre("dcba", 40, 3);
        HiddenPeriods x = Checks.textOf("ddccb");
        Checks.same("the most common one, of several", x.count(6), 2);
        Checks.same("how many", x.count(7), 2);
    }

    // ---- settings

    private static void settingIs(int setting, int least, int most, int atFirst) {
        HiddenPeriods x = new HiddenPeriods();
        Checks.same("setting(" + setting + ") at first", x.setting(setting), atFirst);
        Checks.same("set(" + setting + ", " + most + ")", x.set(setting, most), atFirst);
        Checks.same("setting(" + setting + ")", x.setting(setting), most);
        Checks.same("set(" + setting + ", " + least + ")", x.set(setting, least), most);
        Checks.same("setting(" + setting + ")", x.setting(setting), least);
        for (int other = 0; other < 3; other++) {
            if (other != setting) {
                Checks.same("the other, setting(" + other + ")", x.setting(other), other == 2 ? 75 : 0);
            }
        }
        for (int value : Checks.outside(least, most)) {
            Checks.refused("set(" + setting + ", " + value + ")", HiddenPeriods::new, Checks.ARGUMENT,
                y -> y.set(setting, value));
        }
    }

    // ---- input text

    private static void fullBuffer() {
        HiddenPeriods x = new HiddenPeriods();
        for (int i = 1; i <= 60; i++) {
            Checks.same("append, the " + i + "th", x.append('a'), i);
        }
        Checks.same("putAll() of 60", x.putAll(), 60);
        Checks.refused("a 61st character", () -> Checks.typed("a".repeat(60)), Checks.STATE, y -> y.append('a'));
        Checks.refused("a 61st character, though 60 are wrong", () -> Checks.typed("!".repeat(60)), Checks.STATE,
            y -> y.append('a'));
        HiddenPeriods z = Checks.typed("a".repeat(60));
        z.clearBuffer();
        Checks.same("append behind clearBuffer()", z.append('b'), 1);
    }

    private static void textIs(String text, String due) {
        HiddenPeriods x = Checks.typed(text);
        Checks.same("firstError() of " + text, x.firstError(), text.length());
        Checks.same("putAll() of " + text, x.putAll(), due.length());
        Checks.same("the row by " + text, Checks.row(x), due);
    }

    private static void isNoText(String text, int error) {
        Checks.same("firstError() of " + text, Checks.typed(text).firstError(), error);
        Checks.refused("putAll() of " + text, () -> Checks.typed(text), Checks.ARGUMENT, x -> x.putAll());
    }

    private static void parts() {
        isNoText("", 0);
        textIs("a", "a");
        textIs("d", "d");
        textIs("abcd", "abcd");
        textIs("(a)2", "aa");
        textIs("(a)2(b)2", "aabb");
        textIs("c(a)2d", "caad");
        isNoText("`", 0);
        isNoText("e", 0);
        isNoText("A", 0);
        isNoText("D", 0);
        isNoText("ae", 1);
        isNoText("a2", 1);
        isNoText("a,b", 1);
    }

    private static void groups() {
        isNoText("()2", 1);
        textIs("(d)2", "dd");
        textIs("(abcd)3", "abcdabcdabcd");
        isNoText("(a)0", 3);
        isNoText("(a)1", 3);
        textIs("(a)9", "aaaaaaaaa");
        isNoText("(a):", 3);
        isNoText("(a)/", 3);
        isNoText("(a)22", 4);
        isNoText("(a)", 3);
        isNoText("(a", 2);
        isNoText("(", 1);
        isNoText("(a)b", 3);
        isNoText("(`)2", 1);
        isNoText("(e)2", 1);
        isNoText("((a)2)2", 1);
        isNoText("(a(b)2)2", 2);
        isNoText("a)2", 1);
        textIs("(" + "b".repeat(57) + ")2", "b".repeat(114));
    }

    private static void leftToRight() {
        textIs("(ab)2c(cd)3", "ababccdcdcd");
        Checks.same("the first of two errors", Checks.typed("ab!c!").firstError(), 2);
        Checks.same("an error at the begin", Checks.typed("!a").firstError(), 0);
        Checks.same("an error at the end", Checks.typed("aaa!").firstError(), 3);
        Checks.same("an error behind what is no error by itself", Checks.typed("(ab))2").firstError(), 4);
    }

    private static void ofAnyLength() {
        // These 60 characters have no room for a ")" and a number; a longer text would.
        isNoText("(" + "a".repeat(59), 60);
        isNoText("a".repeat(59) + "(", 60);
        isNoText("(" + "a".repeat(58) + ")", 60);
        isNoText("a".repeat(59) + "!", 59);
        // 9 times 57 signs have no room in a row, but are signs as a text.
        Checks.same("firstError() of many signs", Checks.typed("(" + "a".repeat(57) + ")9").firstError(), 60);
    }
}
