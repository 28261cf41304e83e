import java.util.List;
import java.util.function.Supplier;

/** The boundaries of the promises 1 to 5: a new object, put, change, cut and grow. */
final class RowBoundaries {
    private static final Supplier<HiddenPeriods> FOUR = () -> Checks.textOf("abcd");
    private static final Supplier<HiddenPeriods> FULL = () -> Checks.rowOfMany(240);

    private RowBoundaries() {
    }

    static void all(Sentences the) {
        the.of("Promise 1: A new object");
        the.sentence("Creates an empty row,", RowBoundaries::newRow);
        the.sentence("without periods,", RowBoundaries::newWithoutPeriods);
        the.sentence("with an empty buffer.", RowBoundaries::newBuffer);

        the.of("Promise 2: put");
        the.sentence("Puts a sign behind the row. Undoable.", RowBoundaries::putBehind);
        the.sentence("- `sign`: 0 to 3", RowBoundaries::putRange);
        the.sentence("Returns how many signs the row has then.", RowBoundaries::putReturns);
        the.sentence("Throws `IllegalArgumentException` if sign is out of range", RowBoundaries::putOutOfRange);
        the.sentence("Throws `IllegalStateException` if it has 240", RowBoundaries::putFull);

        the.of("Promise 3: change");
        the.sentence("Changes a sign. Undoable.", RowBoundaries::changeOne);
        the.sentence("- `place`: its place", RowBoundaries::changePlaces);
        the.sentence("- `sign`: 0 to 3", RowBoundaries::changeRange);
        the.sentence("Returns the previous one.", RowBoundaries::changeReturns);
        the.sentence("Throws `IndexOutOfBoundsException` if there is no such place", RowBoundaries::changeNoPlace);
        the.sentence("Throws `IllegalArgumentException` if sign is out of range", RowBoundaries::changeOutOfRange);

        the.of("Promise 4: cut");
        the.sentence("Takes signs from the end of the row. Undoable.", RowBoundaries::cutFromTheEnd);
        the.sentence("- `many`: 1 to 240:", RowBoundaries::cutRange);
        the.sentence("how many, or all, if there are not so many", RowBoundaries::cutAll);
        the.sentence("Returns how many signs the row has then.", RowBoundaries::cutReturns);
        the.sentence("Throws `IllegalArgumentException` if many is out of range", RowBoundaries::cutOutOfRange);

        the.of("Promise 5: grow");
        the.sentence("at each new place p the sign (class of p) % 4;", RowBoundaries::growClassesWrap);
        the.sentence("Puts signs by a period behind the row:", RowBoundaries::growPlacesGoOn);
        the.sentence("then, with wrong above 0, each of them whose place is divisible by wrong becomes the next sign",
            RowBoundaries::growWrong);
        the.sentence("(behind 3 comes 0).", RowBoundaries::growWrongWraps);
        the.sentence("Undoable, as one call.", RowBoundaries::growUndone);
        the.sentence("- `tenths`: 10 to 400", RowBoundaries::growTenths);
        the.sentence("- `many`: 1 to 240", RowBoundaries::growMany);
        the.sentence("- `wrong`: 0 to 240:", RowBoundaries::growWrongRange);
        the.sentence("0: none is changed", RowBoundaries::growNoneWrong);
        the.sentence("Returns how many signs the row has then.", RowBoundaries::growReturns);
        the.sentence("Throws `IllegalArgumentException` if an argument is out of range", RowBoundaries::growOutOfRange);
        the.sentence("Throws `IllegalStateException` if the row would have more than 240", RowBoundaries::growTooMany);
    }

    // ---- a new object

    private static void newRow() {
        HiddenPeriods x = new HiddenPeriods();
        Checks.same("count(0)", x.count(0), 0);
        Checks.same("count(1)", x.count(1), 0);
        Checks.same("sign(0)", x.sign(0), -1);
        Checks.same("share()", x.share(), 1.0);
        Checks.same("count(9)", x.count(9), 0);
        Checks.refused("undo()", HiddenPeriods::new, Checks.STATE, y -> y.undo());
    }

    private static void newWithoutPeriods() {
        Checks.same("count(3)", new HiddenPeriods().count(3), 0);
        Checks.refused("period(0, 0)", HiddenPeriods::new, Checks.INDEX, x -> x.period(0, 0));
        Checks.refused("drop(0)", HiddenPeriods::new, Checks.INDEX, x -> x.drop(0));
    }

    private static void newBuffer() {
        HiddenPeriods x = new HiddenPeriods();
        Checks.same("firstError()", x.firstError(), 0);
        Checks.same("clearBuffer()", x.clearBuffer(), 0);
        Checks.same("append('a')", x.append('a'), 1);
        Checks.refused("putAll()", HiddenPeriods::new, Checks.ARGUMENT, y -> y.putAll());
    }

    // ---- put

    private static void putBehind() {
        HiddenPeriods x = new HiddenPeriods();
        x.put(3);
        Checks.same("the row behind the first put", Checks.row(x), "d");
        x.put(1);
        Checks.same("the row behind the second put", Checks.row(x), "db");
        Checks.undoable("put into an empty row", HiddenPeriods::new, y -> y.put(2));
        Checks.undoable("put as the 240th", () -> Checks.rowOfMany(239), y -> y.put(2));
    }

    private static void putRange() {
        for (int sign = 0; sign <= 3; sign++) {
            HiddenPeriods x = new HiddenPeriods();
            Checks.same("put(" + sign + ")", x.put(sign), 1);
            Checks.same("sign(0)", x.sign(0), sign);
        }
    }

    private static void putReturns() {
        Checks.same("put into an empty row", new HiddenPeriods().put(0), 1);
        Checks.same("put behind four", FOUR.get().put(0), 5);
        Checks.same("put behind 239", Checks.rowOfMany(239).put(0), 240);
    }

    private static void putOutOfRange() {
        for (int sign : Checks.outside(0, 3)) {
            Checks.refused("put(" + sign + ") into an empty row", HiddenPeriods::new, Checks.ARGUMENT, x -> x.put(sign));
            Checks.refused("put(" + sign + ") into a full row", FULL, Checks.ARGUMENT, x -> x.put(sign));
        }
    }

    private static void putFull() {
        HiddenPeriods x = Checks.rowOfMany(239);
        Checks.same("put behind 239", x.put(3), 240);
        Checks.same("the 240th sign", x.sign(239), 3);
        Checks.same("the 239th sign", x.sign(238), 0);
        Checks.refused("put(0) into a full row", FULL, Checks.STATE, y -> y.put(0));
        Checks.refused("put(3) into a full row", FULL, Checks.STATE, y -> y.put(3));
        HiddenPeriods y = FULL.get();
        y.cut(1);
        Checks.same("put behind a cut of a full row", y.put(1), 240);
    }

    // ---- change

    private static void changeOne() {
        int[] places = {0, 1, 3};
        String[] due = {"dbcd", "adcd", "abcd"};
        for (int i = 0; i < places.length; i++) {
            HiddenPeriods x = FOUR.get();
            x.change(places[i], 3);
            Checks.same("the row behind change(" + places[i] + ", 3)", Checks.row(x), due[i]);
        }
        Checks.undoable("change of the first one", FOUR, x -> x.change(0, 3));
        Checks.undoable("change of the last one", FOUR, x -> x.change(3, 0));
        Checks.undoable("change to what it is", FOUR, x -> x.change(2, 2));
    }

    private static void changePlaces() {
        HiddenPeriods x = FULL.get();
        Checks.same("change(0, 1)", x.change(0, 1), 0);
        Checks.same("change(239, 2)", x.change(239, 2), 0);
        Checks.same("sign(0)", x.sign(0), 1);
        Checks.same("sign(1)", x.sign(1), 0);
        Checks.same("sign(238)", x.sign(238), 0);
        Checks.same("sign(239)", x.sign(239), 2);
    }

    private static void changeRange() {
        for (int sign = 0; sign <= 3; sign++) {
            HiddenPeriods x = FOUR.get();
            Checks.same("change(2, " + sign + ")", x.change(2, sign), 2);
            Checks.same("sign(2)", x.sign(2), sign);
        }
    }

    private static void changeReturns() {
        HiddenPeriods x = FOUR.get();
        Checks.same("change(0, 3)", x.change(0, 3), 0);
        Checks.same("change(0, 1)", x.change(0, 1), 3);
        Checks.same("change(0, 1) again", x.change(0, 1), 1);
        Checks.same("change(3, 0)", x.change(3, 0), 3);
    }

    private static void changeNoPlace() {
        for (int place : Checks.outside(0, 3)) {
            Checks.refused("change(" + place + ", 0)", FOUR, Checks.INDEX, x -> x.change(place, 0));
            Checks.refused("change(" + place + ", 4)", FOUR, Checks.INDEX, x -> x.change(place, 4));
            Checks.refused("change(" + place + ", -1)", FOUR, Checks.INDEX, x -> x.change(place, -1));
        }
        Checks.refused("change(0, 0) of an empty row", HiddenPeriods::new, Checks.INDEX, x -> x.change(0, 0));
        Checks.refused("change(240, 0) of a full row", FULL, Checks.INDEX, x -> x.change(240, 0));
        Checks.refused("change(3, 0) of what is cut", () -> {
            HiddenPeriods x = FOUR.get();
            x.cut(1);
            return x;
        }, Checks.INDEX, x -> x.change(3, 0));
    }

    private static void changeOutOfRange() {
        for (int sign : Checks.outside(0, 3)) {
            Checks.refused("change(0, " + sign + ")", FOUR, Checks.ARGUMENT, x -> x.change(0, sign));
            Checks.refused("change(3, " + sign + ")", FOUR, Checks.ARGUMENT, x -> x.change(3, sign));
        }
    }

    // ---- cut

    private static void cutFromTheEnd() {
        HiddenPeriods x = FOUR.get();
        x.cut(1);
        Checks.same("the row behind cut(1)", Checks.row(x), "abc");
        x.cut(2);
        Checks.same("the row behind cut(2)", Checks.row(x), "a");
        x.put(3);
        Checks.same("the row behind a put", Checks.row(x), "ad");
        Checks.undoable("cut(1)", FOUR, y -> y.cut(1));
        Checks.undoable("cut of all", FOUR, y -> y.cut(4));
        Checks.undoable("cut of more than all", FOUR, y -> y.cut(240));
        Checks.undoable("cut of none", HiddenPeriods::new, y -> y.cut(240));
    }

    private static void cutRange() {
        Checks.same("cut(1) of a full row", FULL.get().cut(1), 239);
        Checks.same("cut(239) of a full row", FULL.get().cut(239), 1);
        Checks.same("cut(240) of a full row", FULL.get().cut(240), 0);
    }

    private static void cutAll() {
        Checks.same("cut(3) of four", FOUR.get().cut(3), 1);
        Checks.same("cut(4) of four", FOUR.get().cut(4), 0);
        Checks.same("cut(5) of four", FOUR.get().cut(5), 0);
        Checks.same("cut(240) of four", FOUR.get().cut(240), 0);
        Checks.same("cut(1) of none", new HiddenPeriods().cut(1), 0);
        Checks.same("cut(240) of none", new HiddenPeriods().cut(240), 0);
        HiddenPeriods x = FOUR.get();
        x.cut(5);
        Checks.same("sign(0) behind it", x.sign(0), -1);
        Checks.same("put behind it", x.put(2), 1);
        Checks.same("the row behind it", Checks.row(x), "c");
    }

    private static void cutReturns() {
        HiddenPeriods x = FOUR.get();
        Checks.same("cut(1)", x.cut(1), 3);
        Checks.same("cut(1) again", x.cut(1), 2);
        Checks.same("cut(2)", x.cut(2), 0);
    }

    private static void cutOutOfRange() {
        for (int many : Checks.outside(1, 240)) {
            Checks.refused("cut(" + many + ") of four", FOUR, Checks.ARGUMENT, x -> x.cut(many));
            Checks.refused("cut(" + many + ") of none", HiddenPeriods::new, Checks.ARGUMENT, x -> x.cut(many));
            Checks.refused("cut(" + many + ") of 240", FULL, Checks.ARGUMENT, x -> x.cut(many));
        }
    }

    // ---- grow

    private static void grown(String before, int tenths, int wrong, String due) {
        HiddenPeriods x = before.isEmpty() ? new HiddenPeriods() : Checks.textOf(before);
        x.grow(tenths, due.length(), wrong);
        Checks.same("grow by " + tenths + " tenths, wrong " + wrong + ", behind " + before, Checks.row(x), before + due);
    }

    private static void growClassesWrap() {
        grown("", 10, 0, "aaa");
        // 10 * p % 11 is 0, 10, 9, .. 1, 0, 10.
        grown("", 11, 0, "abaaaaaaaaaab");
        // 10 * p % 25 is 0, 10, 20, 5, 15, 0.
        grown("", 25, 0, "abcababc");
        grown("", 40, 0, "abcdabcd");
        grown("", 50, 0, "abcdaabcda");
        grown("", 90, 0, "abcdabcdaabc");
        // The class 39 is 3 by 4; the place 40 begins again.
        grown("", 400, 0, "abcd".repeat(10) + "abcd");
        grown("", 390, 0, "abcd".repeat(9) + "abc" + "abcd");
    }

    private static void growPlacesGoOn() {
        grown("ddddd", 30, 0, "cabc");
        grown("d", 400, 0, "bcda");
        grown("dddd", 25, 0, "babcab");
        HiddenPeriods x = Checks.rowOfMany(238);
        x.grow(40, 2, 0);
        // 2380 and 2390 leave 20 and 30.
        Checks.same("sign(237)", x.sign(237), 0);
        Checks.same("sign(238)", x.sign(238), 2);
        Checks.same("sign(239)", x.sign(239), 3);
    }

    private static void growWrong() {
        grown("", 10, 1, "bbbb");
        grown("", 10, 2, "baba");
        grown("", 10, 3, "baabaab");
        grown("aa", 10, 3, "abaab");
        grown("a", 10, 1, "bb");
        grown("aaa", 10, 3, "b");
        HiddenPeriods x = new HiddenPeriods();
        x.grow(10, 240, 240);
        Checks.same("sign(0), wrong 240", x.sign(0), 1);
        Checks.same("what else is wrong, of 240", x.explains(10, 0), 239);
        HiddenPeriods y = new HiddenPeriods();
        y.grow(10, 240, 239);
        Checks.same("sign(0), wrong 239", y.sign(0), 1);
        Checks.same("sign(239), wrong 239", y.sign(239), 1);
        Checks.same("what else is wrong, of 239", y.explains(10, 0), 238);
    }

    private static void growWrongWraps() {
        grown("", 40, 1, "bcdabcda");
        grown("", 40, 3, "bbcaabdd");
        grown("abc", 40, 3, "aabdd");
        // The class 4 is the sign 0, and then 1; the class 3 is the sign 3, and then 0.
        grown("aaaa", 50, 4, "babca");
    }

    private static void growUndone() {
        Checks.undoable("grow(20, 1, 0)", FOUR, x -> x.grow(20, 1, 0));
        Checks.undoable("grow(20, 236, 3)", FOUR, x -> x.grow(20, 236, 3));
        Checks.undoable("grow(20, 240, 1)", HiddenPeriods::new, x -> x.grow(20, 240, 1));
    }

    private static void growTenths() {
        Checks.same("grow(10, 1, 0)", new HiddenPeriods().grow(10, 1, 0), 1);
        Checks.same("grow(400, 1, 0)", new HiddenPeriods().grow(400, 1, 0), 1);
    }

    private static void growMany() {
        Checks.same("grow(20, 1, 0)", new HiddenPeriods().grow(20, 1, 0), 1);
        Checks.same("grow(20, 240, 0)", new HiddenPeriods().grow(20, 240, 0), 240);
    }

    private static void growWrongRange() {
        Checks.same("grow(20, 2, 0)", new HiddenPeriods().grow(20, 2, 0), 2);
        Checks.same("grow(20, 2, 1)", new HiddenPeriods().grow(20, 2, 1), 2);
        Checks.same("grow(20, 2, 240)", new HiddenPeriods().grow(20, 2, 240), 2);
    }

    private static void growNoneWrong() {
        grown("", 20, 0, "abab");
        grown("d", 40, 0, "bcda");
        HiddenPeriods x = new HiddenPeriods();
        x.grow(10, 240, 0);
        Checks.same("the most common sign", x.count(6), 0);
        Checks.same("how many of it", x.count(7), 240);
    }

    private static void growReturns() {
        Checks.same("grow(20, 1, 0) behind four", FOUR.get().grow(20, 1, 0), 5);
        Checks.same("grow(20, 236, 0) behind four", FOUR.get().grow(20, 236, 0), 240);
        Checks.same("grow(20, 7, 2) behind four", FOUR.get().grow(20, 7, 2), 11);
    }

    private static void growOutOfRange() {
        for (Supplier<HiddenPeriods> made : List.of(FOUR, FULL)) {
            for (int tenths : Checks.outside(10, 400)) {
                Checks.refused("grow(" + tenths + ", 1, 0)", made, Checks.ARGUMENT, x -> x.grow(tenths, 1, 0));
            }
            for (int many : Checks.outside(1, 240)) {
                Checks.refused("grow(20, " + many + ", 0)", made, Checks.ARGUMENT, x -> x.grow(20, many, 0));
            }
            for (int wrong : Checks.outside(0, 240)) {
                Checks.refused("grow(20, 1, " + wrong + ")", made, Checks.ARGUMENT, x -> x.grow(20, 1, wrong));
            }
            Checks.refused("grow(0, 1, 0)", made, Checks.ARGUMENT, x -> x.grow(0, 1, 0));
        }
    }

    private static void growTooMany() {
        Checks.same("grow(20, 236, 0) behind four", FOUR.get().grow(20, 236, 0), 240);
        Checks.refused("grow(20, 237, 0) behind four", FOUR, Checks.STATE, x -> x.grow(20, 237, 0));
        Checks.refused("grow(20, 240, 0) behind four", FOUR, Checks.STATE, x -> x.grow(20, 240, 0));
        Checks.same("grow(20, 1, 0) behind 239", Checks.rowOfMany(239).grow(20, 1, 0), 240);
        Checks.refused("grow(20, 2, 0) behind 239", () -> Checks.rowOfMany(239), Checks.STATE, x -> x.grow(20, 2, 0));
        Checks.refused("grow(20, 1, 0) behind 240", FULL, Checks.STATE, x -> x.grow(20, 1, 0));
        Checks.refused("grow(20, 240, 0) behind 240", FULL, Checks.STATE, x -> x.grow(20, 240, 0));
    }
}
