import java.util.ArrayDeque;
import java.util.ArrayList;
import java.util.Deque;
import java.util.HashMap;
import java.util.List;
import java.util.Map;
import java.util.regex.Matcher;
import java.util.regex.Pattern;

/**
 * The document once more, written for the tests in an other way: each answer is worked out anew from its words, with
 * the Java library and without regard to cost. A method throws what the document says.
 */
final class Model {
    private static final Pattern WHOLE = Pattern.compile("([a-d]|\\([a-d]+\\)[2-9])+");
    private static final Pattern BEGIN = Pattern.compile("([a-d]|\\([a-d]+\\)[2-9])*(\\(([a-d]+\\)?)?)?");
    private static final Pattern PARTS = Pattern.compile("([a-d])|\\(([a-d]+)\\)([2-9])");

    private record Period(int tenths, int phase) {
        int classOf(int place) {
            return Math.floorMod(10 * place + phase, tenths) / 10;
        }

        int classes() {
            int most = 0;
            for (int remainder = 0; remainder < tenths; remainder++) {
                most = Math.max(most, remainder / 10);
            }
            return most + 1;
        }
    }

    private record State(List<Integer> row, List<Period> kept, List<Integer> settings) {
        State copy() {
            return new State(new ArrayList<>(row), new ArrayList<>(kept), new ArrayList<>(settings));
        }
    }

    private State now = new State(new ArrayList<>(), new ArrayList<>(), new ArrayList<>(List.of(0, 0, 75)));
    private final Deque<State> saved = new ArrayDeque<>();
    private String buffer = "";

    // ---- refusals, in the order of the throws clauses

    private static void argument(boolean held) {
        if (!held) {
            throw new IllegalArgumentException();
        }
    }

    private static void state(boolean held) {
        if (!held) {
            throw new IllegalStateException();
        }
    }

    private static void index(boolean held) {
        if (!held) {
            throw new IndexOutOfBoundsException();
        }
    }

    private static boolean in(int value, int least, int most) {
        return least <= value && value <= most;
    }

    private void save() {
        saved.addLast(now.copy());
        if (saved.size() > 6) {
            saved.removeFirst();
        }
    }

    // ---- the row

    int put(int sign) {
        argument(in(sign, 0, 3));
        state(now.row.size() < 240);
        save();
        now.row.add(sign);
        return now.row.size();
    }

    int change(int place, int sign) {
        index(in(place, 0, now.row.size() - 1));
        argument(in(sign, 0, 3));
        save();
        return now.row.set(place, sign);
    }

    int cut(int many) {
        argument(in(many, 1, 240));
        save();
        for (int i = 0; i < many && !now.row.isEmpty(); i++) {
            now.row.remove(now.row.size() - 1);
        }
        return now.row.size();
    }

    int grow(int tenths, int many, int wrong) {
        argument(in(tenths, 10, 400) && in(many, 1, 240) && in(wrong, 0, 240));
        state(now.row.size() + many <= 240);
        save();
        Period period = new Period(tenths, 0);
        for (int i = 0; i < many; i++) {
            int place = now.row.size();
            int sign = period.classOf(place) % 4;
            boolean next = wrong > 0 && place % wrong == 0;
            now.row.add(!next ? sign : sign == 3 ? 0 : sign + 1);
        }
        return now.row.size();
    }

    // ---- periods

    int keep(int tenths, int phase) {
        argument(in(tenths, 10, 400) && in(phase, 0, tenths - 1));
        state(now.kept.size() < 4 && !now.kept.contains(new Period(tenths, phase)));
        save();
        now.kept.add(new Period(tenths, phase));
        return now.kept.size() - 1;
    }

    int drop(int period) {
        index(in(period, 0, now.kept.size() - 1));
        save();
        now.kept.remove(period);
        return now.kept.size();
    }

    int find(int from, int to) {
        int tenths = best(from, to);
        keep(tenths, 0);
        return tenths;
    }

    int mend() {
        save();
        Map<Integer, Integer> changes = new HashMap<>();
        for (int place : window()) {
            int sign = signTold(place);
            if (sign != -1 && sign != now.row.get(place)) {
                changes.put(place, sign);
            }
        }
        changes.forEach((place, sign) -> now.row.set(place, sign));
        return changes.size();
    }

    int set(int setting, int value) {
        index(in(setting, 0, 2));
        argument(setting == 0 ? in(value, 0, 239) : setting == 1 ? in(value, 0, 240) : in(value, 1, 100));
        save();
        return now.settings.set(setting, value);
    }

    // ---- texts

    int append(int code) {
        argument(in(code, 33, 126));
        state(buffer.length() < 60);
        buffer = buffer + (char) code;
        return buffer.length();
    }

    int clearBuffer() {
        int length = buffer.length();
        buffer = "";
        return length;
    }

    int firstError() {
        int length = 0;
        while (length < buffer.length() && BEGIN.matcher(buffer.substring(0, length + 1)).matches()) {
            length++;
        }
        return length;
    }

    int putAll() {
        argument(WHOLE.matcher(buffer).matches());
        StringBuilder signs = new StringBuilder();
        Matcher parts = PARTS.matcher(buffer);
        while (parts.find()) {
            boolean letter = parts.group(1) != null;
            signs.append(letter ? parts.group(1) : parts.group(2).repeat(Integer.parseInt(parts.group(3))));
        }
        state(now.row.size() + signs.length() <= 240);
        save();
        for (int i = 0; i < signs.length(); i++) {
            now.row.add("abcd".indexOf(signs.charAt(i)));
        }
        buffer = "";
        return now.row.size();
    }

    int undo() {
        state(!saved.isEmpty());
        now = saved.removeLast();
        return saved.size();
    }

    // ---- looks

    int sign(int place) {
        argument(place >= 0);
        return place < now.row.size() ? now.row.get(place) : -1;
    }

    int period(int number, int what) {
        index(in(number, 0, now.kept.size() - 1));
        argument(in(what, 0, 6));
        Period period = now.kept.get(number);
        switch (what) {
            case 0:
                return period.tenths;
            case 1:
                return period.phase;
            case 2:
                return period.classes();
            case 3:
                return explained(period, window());
            case 4:
                return explained(period, window()) - count(7);
            case 5:
                int strong = 0;
                for (int group = 0; group < period.classes(); group++) {
                    strong += isStrong(period, group) ? 1 : 0;
                }
                return strong;
            default:
                int first = 0;
                for (int place : window()) {
                    first += told(place, 1) == number ? 1 : 0;
                }
                return first;
        }
    }

    int remainder(int number, int group, int sign) {
        index(in(number, 0, now.kept.size() - 1));
        index(in(group, 0, now.kept.get(number).classes() - 1));
        argument(in(sign, 0, 4));
        List<Integer> signs = signsOf(now.kept.get(number), group, window());
        return sign == 4 ? mostCommon(signs) : times(signs, sign);
    }

    int told(int place, int what) {
        index(in(place, 0, now.row.size() - 1));
        argument(in(what, 0, 2));
        if (what == 0) {
            return signTold(place);
        }
        if (what == 2) {
            return signTold(place) == now.row.get(place) ? 1 : 0;
        }
        for (int number = 0; number < now.kept.size(); number++) {
            Period period = now.kept.get(number);
            if (window().contains(place) && isStrong(period, period.classOf(place))) {
                return number;
            }
        }
        return -1;
    }

    int count(int what) {
        argument(in(what, 0, 9));
        List<Integer> window = window();
        int sum = 0;
        switch (what) {
            case 0:
                return now.row.size();
            case 1:
                return window.size();
            case 2:
                return now.settings.get(1) == 0 ? 0 : now.settings.get(0);
            case 3:
                return now.kept.size();
            case 4:
                for (int place : window) {
                    sum += told(place, 2);
                }
                return sum;
            case 5:
                for (int place : window) {
                    sum += told(place, 1) == -1 ? 1 : 0;
                }
                return sum;
            case 6:
                return mostCommon(signsAt(window));
            case 7:
                return times(signsAt(window), mostCommon(signsAt(window)));
            case 8:
                StringBuilder places = new StringBuilder();
                for (int place : window) {
                    places.append(told(place, 2));
                }
                for (String stretch : places.toString().split("0")) {
                    sum = Math.max(sum, stretch.length());
                }
                return sum;
            default:
                return saved.size();
        }
    }

    int setting(int setting) {
        index(in(setting, 0, 2));
        return now.settings.get(setting);
    }

    // ---- what would be

    int explains(int tenths, int phase) {
        argument(in(tenths, 10, 400) && in(phase, 0, tenths - 1));
        return explained(new Period(tenths, phase), window());
    }

    int best(int from, int to) {
        argument(in(from, 10, 400) && in(to, from, 400));
        int found = to;
        for (int tenths = to; tenths >= from; tenths--) {
            if (worth(tenths) >= worth(found)) {
                found = tenths;
            }
        }
        return found;
    }

    private int worth(int tenths) {
        return 4 * explains(tenths, 0) - new Period(tenths, 0).classes();
    }

    int bestPhase(int tenths) {
        argument(in(tenths, 10, 400));
        int found = tenths - 1;
        for (int phase = tenths - 1; phase >= 0; phase--) {
            if (explains(tenths, phase) >= explains(tenths, found)) {
                found = phase;
            }
        }
        return found;
    }

    int bestWindow(int tenths, int places) {
        argument(in(tenths, 10, 400) && in(places, 1, 240));
        Period period = new Period(tenths, 0);
        int found = -1;
        int most = -1;
        for (int first = now.row.size() - places; first >= 0; first--) {
            int explained = explained(period, range(first, first + places));
            if (explained >= most) {
                found = first;
                most = explained;
            }
        }
        return found;
    }

    double share() {
        return count(1) == 0 ? 1.0 : (double) count(4) / count(1);
    }

    // ---- terms

    private static List<Integer> range(int from, int to) {
        List<Integer> places = new ArrayList<>();
        for (int place = from; place < to; place++) {
            places.add(place);
        }
        return places;
    }

    private List<Integer> window() {
        int size = now.row.size();
        int first = now.settings.get(0);
        int places = now.settings.get(1);
        return places == 0 ? range(0, size) : range(first, Math.min(size, first + places));
    }

    private List<Integer> signsAt(List<Integer> places) {
        List<Integer> signs = new ArrayList<>();
        places.forEach(place -> signs.add(now.row.get(place)));
        return signs;
    }

    private List<Integer> signsOf(Period period, int group, List<Integer> places) {
        List<Integer> signs = new ArrayList<>();
        for (int place : places) {
            if (period.classOf(place) == group) {
                signs.add(now.row.get(place));
            }
        }
        return signs;
    }

    private static int times(List<Integer> signs, int sign) {
        int times = 0;
        for (int one : signs) {
            times += one == sign ? 1 : 0;
        }
        return times;
    }

    private static int mostCommon(List<Integer> signs) {
        int found = -1;
        for (int sign = 3; sign >= 0; sign--) {
            boolean most = found == -1 || times(signs, sign) >= times(signs, found);
            if (signs.contains(sign) && most) {
                found = sign;
            }
        }
        return found;
    }

    private int explained(Period period, List<Integer> places) {
        Map<Integer, int[]> counts = new HashMap<>();
        for (int place : places) {
            counts.computeIfAbsent(period.classOf(place), group -> new int[4])[now.row.get(place)]++;
        }
        int sum = 0;
        for (int[] count : counts.values()) {
            sum += Math.max(Math.max(count[0], count[1]), Math.max(count[2], count[3]));
        }
        return sum;
    }

    private boolean isStrong(Period period, int group) {
        List<Integer> signs = signsOf(period, group, window());
        int sign = mostCommon(signs);
        return sign != -1 && 100 * times(signs, sign) >= now.settings.get(2) * signs.size();
    }

    private int signTold(int place) {
        int number = told(place, 1);
        if (number == -1) {
            return -1;
        }
        Period period = now.kept.get(number);
        return mostCommon(signsOf(period, period.classOf(place), window()));
    }

    // ---- the digest

    /** The digest of an object by the answers that it gives itself. */
    static long digestByLooks(HiddenPeriods x, String text) {
        List<Long> values = new ArrayList<>();
        for (int what = 0; what <= 9; what++) {
            values.add((long) x.count(what));
        }
        for (int setting = 0; setting <= 2; setting++) {
            values.add((long) x.setting(setting));
        }
        for (int place = 0; place < x.count(0); place++) {
            values.add((long) x.sign(place));
        }
        for (int number = 0; number < x.count(3); number++) {
            for (int what = 0; what <= 6; what++) {
                values.add((long) x.period(number, what));
            }
            for (int group = 0; group < x.period(number, 2); group++) {
                for (int sign = 0; sign <= 4; sign++) {
                    values.add((long) x.remainder(number, group, sign));
                }
            }
        }
        for (int place = 0; place < Math.min(20, x.count(0)); place++) {
            values.add((long) x.told(place, 0));
            values.add((long) x.told(place, 1));
        }
        values.add((long) x.best(20, 60));
        values.add((long) x.bestPhase(35));
        values.add((long) x.bestWindow(40, 12));
        values.add(Double.doubleToLongBits(x.share()));
        values.add((long) text.length());
        text.chars().forEach(code -> values.add((long) code));
        long hash = 2953;
        for (long value : values) {
            hash = 31 * hash + value;
        }
        return hash;
    }

    String buffer() {
        return buffer;
    }
}
