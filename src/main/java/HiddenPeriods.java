import java.util.Arrays;

/** Periods hidden in a row of signs. What each call answers is said in ../shared/DOC.md, promise by promise. */
public final class HiddenPeriods {
    public static final int NONE = -1;

    private static final int SIGNS = 4;
    private static final int MOST_PLACES = 240;
    private static final int PLACE_TENTHS = 10;
    private static final int LEAST_TENTHS = 10;
    private static final int MOST_TENTHS = 400;
    private static final int MOST_CLASSES = 40;
    private static final int MOST_PERIODS = 4;
    private static final int MOST_CODES = 60;
    private static final int MOST_SAVED = 6;
    private static final int MOST_TIMES = 9;

    private static final int FIRST_PLACE = 0;
    private static final int WINDOW_PLACES = 1;
    private static final int SETTINGS = 3;

    private static final int NUMBERS = 10;
    private static final int PERIOD_NUMBERS = 7;
    private static final int TOLD_NUMBERS = 3;

    private final State state = new State();
    private final History history = new History();
    private final Text text = new Text();
    private final Counts counts = new Counts();
    private final Telling telling = new Telling();

    public HiddenPeriods() {
    }

    // ---- the row

    public int put(int sign) throws IllegalArgumentException, IllegalStateException {
        if (!isSign(sign)) {
            throw new IllegalArgumentException("a sign is 0 to 3");
        }
        if (state.length >= MOST_PLACES) {
            throw new IllegalStateException("the row is full");
        }
        history.save(state);
        state.addSign(sign);
        return state.length;
    }

    public int change(int place, int sign) throws IndexOutOfBoundsException, IllegalArgumentException {
        if (!state.hasPlace(place)) {
            throw new IndexOutOfBoundsException("there is no such place");
        }
        if (!isSign(sign)) {
            throw new IllegalArgumentException("a sign is 0 to 3");
        }
        history.save(state);
        int previous = state.signAt(place);
        state.changeSign(place, sign);
        return previous;
    }

    public int cut(int many) throws IllegalArgumentException {
        if (!isWithin(many, 1, MOST_PLACES)) {
            throw new IllegalArgumentException("1 to 240 signs are cut");
        }
        history.save(state);
        state.length = Math.max(0, state.length - many);
        return state.length;
    }

    public int grow(int tenths, int many, int wrong) throws IllegalArgumentException, IllegalStateException {
        if (!isTenths(tenths) || !isWithin(many, 1, MOST_PLACES) || !isWithin(wrong, 0, MOST_PLACES)) {
            throw new IllegalArgumentException("an argument is out of range");
        }
        if (state.length + many > MOST_PLACES) {
            throw new IllegalStateException("the row has no place for so many signs");
        }
        history.save(state);
        for (int i = 0; i < many; i++) {
            state.addSign(grownSign(state.length, tenths, wrong));
        }
        return state.length;
    }

    // ---- periods

    public int keep(int tenths, int phase) throws IllegalArgumentException, IllegalStateException {
        if (!isPeriod(tenths, phase)) {
            throw new IllegalArgumentException("tenths or phase is out of range");
        }
        if (!canKeep(tenths, phase)) {
            throw new IllegalStateException("4 periods are kept, or this one is");
        }
        history.save(state);
        state.addPeriod(tenths, phase);
        return state.kept - 1;
    }

    public int drop(int period) throws IndexOutOfBoundsException {
        if (!state.hasNumber(period)) {
            throw new IndexOutOfBoundsException("there is no such period");
        }
        history.save(state);
        state.removePeriod(period);
        return state.kept;
    }

    public int find(int from, int to) throws IllegalArgumentException, IllegalStateException {
        if (!isTenthsRange(from, to)) {
            throw new IllegalArgumentException("from or to is out of range");
        }
        int tenths = bestTenths(from, to);
        if (!canKeep(tenths, 0)) {
            throw new IllegalStateException("4 periods are kept, or the one that is found is");
        }
        history.save(state);
        state.addPeriod(tenths, 0);
        return tenths;
    }

    public int mend() {
        history.save(state);
        // The telling stays as it was read here, so no change has a part in the next one.
        telling.read(state, counts);
        int end = state.windowEnd();
        int mended = 0;
        for (int place = state.windowStart(); place < end; place++) {
            int sign = telling.signAt(place);
            if (sign != NONE && sign != state.signAt(place)) {
                state.changeSign(place, sign);
                mended++;
            }
        }
        return mended;
    }

    public int set(int setting, int value) throws IndexOutOfBoundsException, IllegalArgumentException {
        if (!isWithin(setting, 0, SETTINGS - 1)) {
            throw new IndexOutOfBoundsException("there is no such setting");
        }
        if (!isValueOf(setting, value)) {
            throw new IllegalArgumentException("value is out of range");
        }
        history.save(state);
        int previous = state.settingAt(setting);
        state.changeSetting(setting, value);
        return previous;
    }

    // ---- texts

    public int append(int code) throws IllegalArgumentException, IllegalStateException {
        if (!isWithin(code, 33, 126)) {
            throw new IllegalArgumentException("code is not 33 to 126");
        }
        if (text.length >= MOST_CODES) {
            throw new IllegalStateException("the buffer is full");
        }
        text.add(code);
        return text.length;
    }

    public int clearBuffer() {
        int previous = text.length;
        text.length = 0;
        return previous;
    }

    public int firstError() {
        return text.errorIndex();
    }

    public int putAll() throws IllegalArgumentException, IllegalStateException {
        if (!text.isComplete()) {
            throw new IllegalArgumentException("the buffer is not complete signs as a text");
        }
        int many = text.unfold();
        if (state.length + many > MOST_PLACES) {
            throw new IllegalStateException("the row has no place for so many signs");
        }
        history.save(state);
        for (int i = 0; i < many; i++) {
            state.addSign(text.unfoldedAt(i));
        }
        text.length = 0;
        return state.length;
    }

    public int undo() throws IllegalStateException {
        if (history.many == 0) {
            throw new IllegalStateException("no state is saved");
        }
        history.restore(state);
        return history.many;
    }

    // ---- looks; nothing is changed

    public int sign(int place) throws IllegalArgumentException {
        if (place < 0) {
            throw new IllegalArgumentException("place is below 0");
        }
        return state.signAt(place);
    }

    public int period(int period, int what) throws IndexOutOfBoundsException, IllegalArgumentException {
        if (!state.hasNumber(period)) {
            throw new IndexOutOfBoundsException("there is no such period");
        }
        if (!isWithin(what, 0, PERIOD_NUMBERS - 1)) {
            throw new IllegalArgumentException("what is not 0 to 6");
        }
        telling.read(state, counts);
        return periodNumber(period, what);
    }

    public int remainder(int period, int group, int sign) throws IndexOutOfBoundsException, IllegalArgumentException {
        if (!state.hasNumber(period)) {
            throw new IndexOutOfBoundsException("there is no such period");
        }
        if (!isWithin(group, 0, classesOf(state.tenthsAt(period)) - 1)) {
            throw new IndexOutOfBoundsException("there is no such class");
        }
        if (!isWithin(sign, 0, SIGNS)) {
            throw new IllegalArgumentException("sign is not 0 to 4");
        }
        counts.takeKept(state, period);
        return counts.lookedAt(group, sign);
    }

    public int told(int place, int what) throws IndexOutOfBoundsException, IllegalArgumentException {
        if (!state.hasPlace(place)) {
            throw new IndexOutOfBoundsException("there is no such place");
        }
        if (!isWithin(what, 0, TOLD_NUMBERS - 1)) {
            throw new IllegalArgumentException("what is not 0 to 2");
        }
        telling.read(state, counts);
        return toldNumber(place, what);
    }

    public int count(int what) throws IllegalArgumentException {
        if (!isWithin(what, 0, NUMBERS - 1)) {
            throw new IllegalArgumentException("what is not 0 to 9");
        }
        telling.read(state, counts);
        return number(what);
    }

    public int setting(int setting) throws IndexOutOfBoundsException {
        if (!isWithin(setting, 0, SETTINGS - 1)) {
            throw new IndexOutOfBoundsException("there is no such setting");
        }
        return state.settingAt(setting);
    }

    // ---- what would be; nothing is changed

    public int explains(int tenths, int phase) throws IllegalArgumentException {
        if (!isPeriod(tenths, phase)) {
            throw new IllegalArgumentException("tenths or phase is out of range");
        }
        counts.takeWindow(state, tenths, phase);
        return counts.explained();
    }

    public int best(int from, int to) throws IllegalArgumentException {
        if (!isTenthsRange(from, to)) {
            throw new IllegalArgumentException("from or to is out of range");
        }
        return bestTenths(from, to);
    }

    public int bestPhase(int tenths) throws IllegalArgumentException {
        if (!isTenths(tenths)) {
            throw new IllegalArgumentException("tenths is out of range");
        }
        int found = 0;
        int most = -1;
        for (int phase = 0; phase < tenths; phase++) {
            counts.takeWindow(state, tenths, phase);
            int explained = counts.explained();
            if (explained > most) {
                found = phase;
                most = explained;
            }
        }
        return found;
    }

    public int bestWindow(int tenths, int places) throws IllegalArgumentException {
        if (!isTenths(tenths) || !isWithin(places, 1, MOST_PLACES)) {
            throw new IllegalArgumentException("tenths or places is out of range");
        }
        int found = NONE;
        int most = -1;
        int last = state.length - places;
        for (int start = 0; start <= last; start++) {
            counts.takeStretch(state, tenths, 0, start, places);
            int explained = counts.explained();
            if (explained > most) {
                found = start;
                most = explained;
            }
        }
        return found;
    }

    public double share() {
        telling.read(state, counts);
        return shareTold();
    }

    public long digest() {
        telling.read(state, counts);
        long hash = withNumbers(2953L);
        hash = withRow(hash);
        hash = withPeriods(hash);
        hash = withTold(hash);
        hash = with(hash, best(20, 60));
        hash = with(hash, bestPhase(35));
        hash = with(hash, bestWindow(40, 12));
        hash = with(hash, bitsOf(shareTold()));
        return withText(hash);
    }

    // ---- the parts of the digest

    private static long with(long hash, long value) {
        return 31L * hash + value;
    }

    private long withNumbers(long before) {
        long hash = before;
        for (int what = 0; what < NUMBERS; what++) {
            hash = with(hash, number(what));
        }
        for (int i = 0; i < SETTINGS; i++) {
            hash = with(hash, state.settingAt(i));
        }
        return hash;
    }

    private long withRow(long before) {
        long hash = before;
        for (int place = 0; place < state.length; place++) {
            hash = with(hash, state.signAt(place));
        }
        return hash;
    }

    private long withPeriods(long before) {
        long hash = before;
        for (int period = 0; period < state.kept; period++) {
            for (int what = 0; what < PERIOD_NUMBERS; what++) {
                hash = with(hash, periodNumber(period, what));
            }
            hash = withCounts(hash, period);
        }
        return hash;
    }

    private long withCounts(long before, int period) {
        long hash = before;
        counts.takeKept(state, period);
        int classes = classesOf(state.tenthsAt(period));
        for (int group = 0; group < classes; group++) {
            for (int sign = 0; sign <= SIGNS; sign++) {
                hash = with(hash, counts.lookedAt(group, sign));
            }
        }
        return hash;
    }

    private long withTold(long before) {
        long hash = before;
        for (int place = 0; place < 20 && place < state.length; place++) {
            hash = with(hash, toldNumber(place, 0));
            hash = with(hash, toldNumber(place, 1));
        }
        return hash;
    }

    private long withText(long before) {
        long hash = with(before, text.length);
        for (int i = 0; i < text.length; i++) {
            hash = with(hash, text.codeAt(i));
        }
        return hash;
    }

    // LANGUAGE.md leaves Double out, so the bits of a share, 0 to 1, are put together here.
    private static long bitsOf(double share) {
        if (share <= 0.0) {
            return 0L;
        }
        double scaled = share;
        long exponent = 1023L;
        for (int i = 0; i < 1000 && scaled < 1.0; i++) {
            scaled = scaled * 2.0;
            exponent--;
        }
        return (exponent << 52) + (long) ((scaled - 1.0) * 4503599627370496.0);
    }

    // ---- numbers that are looked at; those that the kept periods tell need the telling to be read before

    private int number(int what) {
        switch (what) {
            case 0:
                return state.length;
            case 1:
                return state.windowPlaces();
            case 2:
                return state.windowStart();
            case 3:
                return state.kept;
            case 4:
                return telling.explained(state);
            case 5:
                return telling.placesToldBy(state, NONE);
            case 6:
                return state.commonSign();
            case 7:
                return state.timesInWindow(state.commonSign());
            case 8:
                return telling.longestStretch(state);
            default:
                return history.many;
        }
    }

    private int periodNumber(int period, int what) {
        if (what == 0) {
            return state.tenthsAt(period);
        }
        if (what == 1) {
            return state.phaseAt(period);
        }
        if (what == 2) {
            return classesOf(state.tenthsAt(period));
        }
        if (what == 6) {
            return telling.placesToldBy(state, period);
        }
        counts.takeKept(state, period);
        if (what == 3) {
            return counts.explained();
        }
        if (what == 4) {
            return counts.explained() - state.timesInWindow(state.commonSign());
        }
        return counts.strongClasses(state.hundredths);
    }

    private int toldNumber(int place, int what) {
        if (what == 0) {
            return telling.signAt(place);
        }
        if (what == 1) {
            return telling.tellerAt(place);
        }
        return telling.isExplained(state, place) ? 1 : 0;
    }

    private double shareTold() {
        int places = state.windowPlaces();
        if (places <= 0) {
            return 1.0;
        }
        return (double) telling.explained(state) / (double) places;
    }

    private int bestTenths(int from, int to) {
        int found = from;
        int most = -MOST_CLASSES - 1;
        for (int tenths = from; tenths <= to; tenths++) {
            counts.takeWindow(state, tenths, 0);
            int worth = 4 * counts.explained() - classesOf(tenths);
            if (worth > most) {
                found = tenths;
                most = worth;
            }
        }
        return found;
    }

    private boolean canKeep(int tenths, int phase) {
        return state.kept < MOST_PERIODS && !state.hasPeriod(tenths, phase);
    }

    private static int grownSign(int place, int tenths, int wrong) {
        int sign = classOf(place, tenths, 0) % SIGNS;
        if (wrong > 0 && place % wrong == 0) {
            return (sign + 1) % SIGNS;
        }
        return sign;
    }

    // ---- ranges

    private static boolean isWithin(int value, int least, int most) {
        return value >= least && value <= most;
    }

    private static boolean isSign(int sign) {
        return isWithin(sign, 0, SIGNS - 1);
    }

    private static boolean isTenths(int tenths) {
        return isWithin(tenths, LEAST_TENTHS, MOST_TENTHS);
    }

    private static boolean isPeriod(int tenths, int phase) {
        return isTenths(tenths) && isWithin(phase, 0, tenths - 1);
    }

    private static boolean isTenthsRange(int from, int to) {
        return isTenths(from) && isWithin(to, from, MOST_TENTHS);
    }

    private static boolean isValueOf(int setting, int value) {
        if (setting == FIRST_PLACE) {
            return isWithin(value, 0, MOST_PLACES - 1);
        }
        if (setting == WINDOW_PLACES) {
            return isWithin(value, 0, MOST_PLACES);
        }
        return isWithin(value, 1, 100);
    }

    // ---- classes of places

    private static int classOf(int place, int tenths, int phase) {
        if (tenths < LEAST_TENTHS) {
            return NONE;
        }
        return (PLACE_TENTHS * place + phase) % tenths / PLACE_TENTHS;
    }

    private static int classesOf(int tenths) {
        return (tenths + PLACE_TENTHS - 1) / PLACE_TENTHS;
    }

    // ---- arrays; an index outside of them is answered with NONE, or lays nothing

    private static int cellAt(int[] cells, int index) {
        return index >= 0 && index < cells.length ? cells[index] : NONE;
    }

    private static void lay(int[] cells, int index, int value) {
        if (index >= 0 && index < cells.length) {
            cells[index] = value;
        }
    }

    private static void copyCells(int[] from, int[] to) {
        System.arraycopy(from, 0, to, 0, Math.min(from.length, to.length));
    }

    /** All that undo brings back: the row, the kept periods and the settings. */
    private static final class State {
        private final int[] row = new int[MOST_PLACES];
        private final int[] tenths = new int[MOST_PERIODS];
        private final int[] phases = new int[MOST_PERIODS];
        private int length;
        private int kept;
        private int firstPlace;
        private int mostPlaces;
        private int hundredths = 75;

        void become(State other) {
            copyCells(other.row, row);
            copyCells(other.tenths, tenths);
            copyCells(other.phases, phases);
            length = other.length;
            kept = other.kept;
            firstPlace = other.firstPlace;
            mostPlaces = other.mostPlaces;
            hundredths = other.hundredths;
        }

        boolean hasPlace(int place) {
            return place >= 0 && place < length;
        }

        int signAt(int place) {
            return place >= 0 && place < length && place < row.length ? row[place] : NONE;
        }

        void changeSign(int place, int newSign) {
            lay(row, place, newSign);
        }

        void addSign(int newSign) {
            lay(row, length, newSign);
            length++;
        }

        boolean hasNumber(int number) {
            return number >= 0 && number < kept;
        }

        int tenthsAt(int number) {
            return cellAt(tenths, number);
        }

        int phaseAt(int number) {
            return cellAt(phases, number);
        }

        boolean hasPeriod(int someTenths, int somePhase) {
            for (int i = 0; i < kept; i++) {
                if (tenthsAt(i) == someTenths && phaseAt(i) == somePhase) {
                    return true;
                }
            }
            return false;
        }

        void addPeriod(int newTenths, int newPhase) {
            lay(tenths, kept, newTenths);
            lay(phases, kept, newPhase);
            kept++;
        }

        void removePeriod(int number) {
            kept--;
            for (int i = number; i < kept; i++) {
                lay(tenths, i, tenthsAt(i + 1));
                lay(phases, i, phaseAt(i + 1));
            }
        }

        int settingAt(int index) {
            if (index == FIRST_PLACE) {
                return firstPlace;
            }
            return index == WINDOW_PLACES ? mostPlaces : hundredths;
        }

        void changeSetting(int index, int value) {
            if (index == FIRST_PLACE) {
                firstPlace = value;
            } else if (index == WINDOW_PLACES) {
                mostPlaces = value;
            } else {
                hundredths = value;
            }
        }

        int windowStart() {
            return mostPlaces > 0 ? firstPlace : 0;
        }

        int windowPlaces() {
            if (mostPlaces == 0) {
                return length;
            }
            return Math.max(0, Math.min(mostPlaces, length - firstPlace));
        }

        int windowEnd() {
            return windowStart() + windowPlaces();
        }

        int timesInWindow(int someSign) {
            int end = windowEnd();
            int times = 0;
            for (int place = windowStart(); place < end; place++) {
                if (signAt(place) == someSign) {
                    times++;
                }
            }
            return times;
        }

        int commonSign() {
            int common = NONE;
            int most = 0;
            for (int s = 0; s < SIGNS; s++) {
                int times = timesInWindow(s);
                if (times > most) {
                    common = s;
                    most = times;
                }
            }
            return common;
        }
    }

    /** The states that undo can go back to, in a ring. */
    private static final class History {
        private final State[] states = new State[MOST_SAVED];
        private int next;
        private int many;

        History() {
            for (int i = 0; i < states.length; i++) {
                states[i] = new State();
            }
        }

        void save(State current) {
            State slot = slotAt(next);
            if (slot != null) {
                slot.become(current);
            }
            next = (next + 1) % MOST_SAVED;
            many = Math.min(many + 1, MOST_SAVED);
        }

        void restore(State current) {
            next = (next + MOST_SAVED - 1) % MOST_SAVED;
            many--;
            State slot = slotAt(next);
            if (slot != null) {
                current.become(slot);
            }
        }

        private State slotAt(int index) {
            return index >= 0 && index < states.length ? states[index] : null;
        }
    }

    /** The counts by remainders of one period at a time. */
    private static final class Counts {
        private final int[] cells = new int[MOST_CLASSES * SIGNS];
        private int classes;

        void takeKept(State current, int number) {
            takeWindow(current, current.tenthsAt(number), current.phaseAt(number));
        }

        void takeWindow(State current, int tenths, int phase) {
            takeStretch(current, tenths, phase, current.windowStart(), current.windowPlaces());
        }

        void takeStretch(State current, int tenths, int phase, int start, int places) {
            Arrays.fill(cells, 0);
            classes = classesOf(tenths);
            int end = start + places;
            for (int place = start; place < end; place++) {
                int index = classOf(place, tenths, phase) * SIGNS + current.signAt(place);
                if (index >= 0 && index < cells.length) {
                    cells[index]++;
                }
            }
        }

        int countOf(int group, int someSign) {
            int index = group * SIGNS + someSign;
            return index >= 0 && index < cells.length ? cells[index] : NONE;
        }

        int lookedAt(int group, int someSign) {
            return someSign < SIGNS ? countOf(group, someSign) : signOf(group);
        }

        int signOf(int group) {
            int found = NONE;
            int most = 0;
            for (int s = 0; s < SIGNS; s++) {
                int times = countOf(group, s);
                if (times > most) {
                    found = s;
                    most = times;
                }
            }
            return found;
        }

        int explained() {
            int sum = 0;
            for (int group = 0; group < classes; group++) {
                sum += greatestOf(group);
            }
            return sum;
        }

        int strongSignOf(int group, int hundredths) {
            boolean strong = 100 * greatestOf(group) >= hundredths * placesOf(group);
            return strong ? signOf(group) : NONE;
        }

        int strongClasses(int hundredths) {
            int strong = 0;
            for (int group = 0; group < classes; group++) {
                if (strongSignOf(group, hundredths) != NONE) {
                    strong++;
                }
            }
            return strong;
        }

        private int greatestOf(int group) {
            int most = 0;
            for (int s = 0; s < SIGNS; s++) {
                int times = countOf(group, s);
                if (times > most) {
                    most = times;
                }
            }
            return most;
        }

        private int placesOf(int group) {
            int sum = 0;
            for (int s = 0; s < SIGNS; s++) {
                sum += countOf(group, s);
            }
            return sum;
        }
    }

    /** What the kept periods tell together of each place, as they were when they were read. */
    private static final class Telling {
        private final int[] strongSigns = new int[MOST_CLASSES];
        private final int[] tellers = new int[MOST_PLACES];
        private final int[] signs = new int[MOST_PLACES];

        void read(State current, Counts counts) {
            Arrays.fill(tellers, NONE);
            Arrays.fill(signs, NONE);
            for (int number = 0; number < current.kept; number++) {
                readStrongSigns(current, counts, number);
                tellBy(current, number);
            }
        }

        private void readStrongSigns(State current, Counts counts, int number) {
            counts.takeKept(current, number);
            for (int group = 0; group < counts.classes; group++) {
                lay(strongSigns, group, counts.strongSignOf(group, current.hundredths));
            }
        }

        // A place that an earlier period tells is left to it.
        private void tellBy(State current, int number) {
            int tenths = current.tenthsAt(number);
            int phase = current.phaseAt(number);
            int end = current.windowEnd();
            for (int place = current.windowStart(); place < end; place++) {
                int told = cellAt(strongSigns, classOf(place, tenths, phase));
                if (told != NONE && tellerAt(place) == NONE) {
                    lay(tellers, place, number);
                    lay(signs, place, told);
                }
            }
        }

        int tellerAt(int place) {
            return cellAt(tellers, place);
        }

        int signAt(int place) {
            return cellAt(signs, place);
        }

        boolean isExplained(State current, int place) {
            int told = signAt(place);
            return told != NONE && told == current.signAt(place);
        }

        int explained(State current) {
            int end = current.windowEnd();
            int places = 0;
            for (int place = current.windowStart(); place < end; place++) {
                if (isExplained(current, place)) {
                    places++;
                }
            }
            return places;
        }

        // With NONE: the places that no period tells.
        int placesToldBy(State current, int number) {
            int end = current.windowEnd();
            int places = 0;
            for (int place = current.windowStart(); place < end; place++) {
                if (tellerAt(place) == number) {
                    places++;
                }
            }
            return places;
        }

        int longestStretch(State current) {
            int end = current.windowEnd();
            int longest = 0;
            int stretch = 0;
            for (int place = current.windowStart(); place < end; place++) {
                stretch = isExplained(current, place) ? stretch + 1 : 0;
                longest = Math.max(longest, stretch);
            }
            return longest;
        }
    }

    /** The buffer, read as signs. */
    private static final class Text {
        private static final int PART = 0;
        private static final int GROUP_BEGUN = 1;
        private static final int GROUP_LETTERS = 2;
        private static final int GROUP_ENDED = 3;
        private static final int WRONG = 4;

        private final int[] codes = new int[MOST_CODES];
        private final int[] unfolded = new int[MOST_CODES * MOST_TIMES];
        private int length;

        void add(int code) {
            lay(codes, length, code);
            length++;
        }

        int codeAt(int index) {
            return cellAt(codes, index);
        }

        int unfoldedAt(int index) {
            return cellAt(unfolded, index);
        }

        int errorIndex() {
            int stage = PART;
            for (int i = 0; i < length; i++) {
                stage = stageAfter(stage, codeAt(i));
                if (stage == WRONG) {
                    return i;
                }
            }
            return length;
        }

        boolean isComplete() {
            int stage = PART;
            for (int i = 0; i < length; i++) {
                stage = stageAfter(stage, codeAt(i));
            }
            return length > 0 && stage == PART;
        }

        // Only a complete text is unfolded; returns how many signs it has.
        int unfold() {
            int many = 0;
            int groupStart = 0;
            for (int i = 0; i < length; i++) {
                int code = codeAt(i);
                if (isLetter(code)) {
                    lay(unfolded, many, code - 'a');
                    many++;
                } else if (code == '(') {
                    groupStart = many;
                } else if (isTimes(code)) {
                    many = repeat(groupStart, many, code - '0');
                }
            }
            return many;
        }

        private int repeat(int start, int end, int times) {
            int size = end - start;
            int newEnd = start + size * times;
            for (int i = end; i < newEnd; i++) {
                lay(unfolded, i, unfoldedAt(i - size));
            }
            return newEnd;
        }

        private static int stageAfter(int stage, int code) {
            if (stage == PART) {
                return isLetter(code) ? PART : code == '(' ? GROUP_BEGUN : WRONG;
            }
            if (stage == GROUP_BEGUN) {
                return isLetter(code) ? GROUP_LETTERS : WRONG;
            }
            if (stage == GROUP_LETTERS) {
                return isLetter(code) ? GROUP_LETTERS : code == ')' ? GROUP_ENDED : WRONG;
            }
            return stage == GROUP_ENDED && isTimes(code) ? PART : WRONG;
        }

        private static boolean isLetter(int code) {
            return code >= 'a' && code <= 'd';
        }

        private static boolean isTimes(int code) {
            return code >= '2' && code <= '9';
        }
    }
}
