/**
 * Reconciliation of submeters over one day: a tree of meters, their readings, energies, balances,
 * bills and revisions. The document ../shared/DOC.md says what each call answers.
 */
public final class MeterTree {
    public static final int NONE = -2000000000, BAD_INDEX = -2000000001, BAD_VALUE = -2000000002, BAD_STATE = -2000000003, FULL = -2000000004;

    private static final int MAX_METERS = 10;
    private static final int INTERVALS = 12;
    private static final int BOUNDARIES = 13;
    private static final int MAX_REVISIONS = 8;
    private static final int MAX_HISTORY = 5;
    private static final int MAX_TEXT = 120;
    private static final int MAX_DIGITS = 6;
    private static final int MAX_ENTRIES = 24;
    private static final int FACTORS = 8;

    private static final int VALID = 0;
    private static final int MISSING = 1;
    private static final int TOO_MUCH = 2;
    private static final int SPIKE = 3;
    private static final int LEAST_SPIKE = 10;

    private final State now;
    private final History history;
    private final Energies energies;
    private final Bills bills;
    private final ReadingText text;

    public MeterTree() {
        now = new State();
        history = new History();
        energies = new Energies();
        bills = new Bills();
        text = new ReadingText();
    }

    // Meters

    public int addMeter(int parent) {
        if (now.count > 0 && !now.has(parent)) {
            return BAD_INDEX;
        }
        if (now.count >= MAX_METERS) {
            return FULL;
        }
        history.push(now);
        return now.append(parent);
    }

    public int setMeter(int meter, int multiplier, int weight) {
        if (!now.has(meter)) {
            return BAD_INDEX;
        }
        if (!within(multiplier, 1, 100) || !within(weight, 1, 100)) {
            return BAD_VALUE;
        }
        history.push(now);
        int previous = now.multiplier[meter];
        now.multiplier[meter] = multiplier;
        now.weight[meter] = weight;
        return previous;
    }

    public int setRegister(int meter, int digits, int limit) {
        if (!now.has(meter)) {
            return BAD_INDEX;
        }
        if (!within(digits, 3, MAX_DIGITS) || !within(limit, 1, 50000)) {
            return BAD_VALUE;
        }
        history.push(now);
        int previous = now.digits[meter];
        if (digits != previous) {
            now.forgetReadings(meter);
        }
        now.digits[meter] = digits;
        now.limit[meter] = limit;
        return previous;
    }

    public int setRules(int spike, int tolerance) {
        if (!within(spike, 2, 20) || !within(tolerance, 0, 1000)) {
            return BAD_VALUE;
        }
        history.push(now);
        int previous = now.spike;
        now.spike = spike;
        now.tolerance = tolerance;
        return previous;
    }

    public int meters() {
        return now.count;
    }

    public int meter(int meter, int what) {
        if (!now.has(meter)) {
            return BAD_INDEX;
        }
        switch (what) {
            case 0:
                return now.parent[meter];
            case 1:
                return now.multiplier[meter];
            case 2:
                return now.digits[meter];
            case 3:
                return now.limit[meter];
            case 4:
                return now.weight[meter];
            case 5:
                return now.countChildren(meter);
            case 6:
                return now.countAbove(meter);
            default:
                return BAD_VALUE;
        }
    }

    public int child(int meter, int index) {
        if (!now.has(meter)) {
            return BAD_INDEX;
        }
        int found = now.findChild(meter, index);
        return found == NONE ? BAD_INDEX : found;
    }

    // Readings

    public int setReading(int meter, int boundary, int value) {
        if (!now.has(meter) || !isBoundary(boundary)) {
            return BAD_INDEX;
        }
        if (!within(value, 0, now.span(meter) - 1)) {
            return BAD_VALUE;
        }
        history.push(now);
        int previous = now.readings[meter][boundary];
        now.readings[meter][boundary] = value;
        return previous;
    }

    public int setAll(int meter, int start, int step) {
        if (!now.has(meter)) {
            return BAD_INDEX;
        }
        int span = now.span(meter);
        if (!within(start, 0, span - 1) || !within(step, 0, span - 1)) {
            return BAD_VALUE;
        }
        history.push(now);
        int value = start;
        now.readings[meter][0] = value;
        for (int boundary = 1; boundary < BOUNDARIES; boundary++) {
            value += step;
            if (value >= span) {
                value -= span;
            }
            now.readings[meter][boundary] = value;
        }
        return value;
    }

    public int removeReading(int meter, int boundary) {
        if (!now.has(meter) || !isBoundary(boundary)) {
            return BAD_INDEX;
        }
        history.push(now);
        int previous = now.readings[meter][boundary];
        now.readings[meter][boundary] = NONE;
        return previous;
    }

    public int reading(int meter, int boundary) {
        if (!now.has(meter) || !isBoundary(boundary)) {
            return BAD_INDEX;
        }
        return now.readings[meter][boundary];
    }

    public int raw(int meter, int interval) {
        if (!now.has(meter) || !isInterval(interval)) {
            return BAD_INDEX;
        }
        return now.advance(meter, interval, interval + 1);
    }

    public int status(int meter, int interval) {
        if (!now.has(meter) || !isInterval(interval)) {
            return BAD_INDEX;
        }
        return now.judge(meter, interval);
    }

    // Energy and balance

    public int energy(int meter, int interval) {
        if (!now.has(meter) || !isInterval(interval)) {
            return BAD_INDEX;
        }
        energies.measure(now, meter);
        return energies.energy[meter][interval];
    }

    public int quality(int meter, int interval) {
        if (!now.has(meter) || !isInterval(interval)) {
            return BAD_INDEX;
        }
        energies.measure(now, meter);
        return energies.quality[meter][interval];
    }

    public int day(int meter, int what) {
        if (!now.has(meter)) {
            return BAD_INDEX;
        }
        switch (what) {
            case 0:
                energies.measure(now, meter);
                return sumOf(energies.energy[meter]);
            case 1:
                return sumOfLosses(meter);
            case 2:
                bills.fill(now, energies);
                return sumOf(bills.billed[meter]);
            case 3:
                return countNotValid(meter);
            default:
                return BAD_VALUE;
        }
    }

    public int loss(int meter, int interval) {
        if (!now.has(meter) || !isInterval(interval)) {
            return BAD_INDEX;
        }
        if (now.countChildren(meter) == 0) {
            return NONE;
        }
        energies.measureFamily(now, meter);
        return energies.lossIn(now, meter, interval);
    }

    public int balance(int meter, int interval) {
        if (!now.has(meter) || !isInterval(interval)) {
            return BAD_INDEX;
        }
        if (now.countChildren(meter) == 0) {
            return NONE;
        }
        energies.measureFamily(now, meter);
        return energies.balanceIn(now, meter, interval);
    }

    public int nextFault(int meter, int interval) {
        if (!now.has(meter)) {
            return BAD_INDEX;
        }
        if (!within(interval, -1, INTERVALS - 1)) {
            return BAD_VALUE;
        }
        if (now.countChildren(meter) == 0) {
            return NONE;
        }
        energies.measureFamily(now, meter);
        for (int next = interval + 1; next < INTERVALS; next++) {
            if (energies.balanceIn(now, meter, next) != 0) {
                return next;
            }
        }
        return NONE;
    }

    // Bills

    public int billed(int meter, int interval) {
        if (!now.has(meter) || !isInterval(interval)) {
            return BAD_INDEX;
        }
        bills.fill(now, energies);
        return bills.billed[meter][interval];
    }

    public int part(int meter, int interval) {
        if (!now.has(meter) || !isInterval(interval)) {
            return BAD_INDEX;
        }
        bills.fill(now, energies);
        return bills.billed[meter][interval] - energies.energy[meter][interval];
    }

    public int shareBits(int meter) {
        if (!now.has(meter)) {
            return BAD_INDEX;
        }
        return bitsOf(shareOf(meter));
    }

    public int share(int meter) {
        if (!now.has(meter)) {
            return BAD_INDEX;
        }
        return (int) (shareOf(meter) * 1000.0f);
    }

    // Suspicion

    public int imbalance(int meter) {
        if (!now.has(meter)) {
            return BAD_INDEX;
        }
        if (now.countChildren(meter) == 0) {
            return NONE;
        }
        energies.measureFamily(now, meter);
        return energies.sumImbalance(now, meter);
    }

    public int imbalanceWith(int meter, int index, int factor) {
        if (!now.has(meter)) {
            return BAD_INDEX;
        }
        int found = now.findChild(meter, index);
        if (!now.has(found)) {
            return BAD_INDEX;
        }
        if (!within(factor, 0, FACTORS - 1)) {
            return BAD_VALUE;
        }
        energies.measureFamily(now, meter);
        return energies.sumImbalanceScaled(now, meter, found, factor);
    }

    public int suspect(int meter) {
        if (!now.has(meter)) {
            return BAD_INDEX;
        }
        if (now.countChildren(meter) == 0) {
            return NONE;
        }
        energies.measureFamily(now, meter);
        return energies.findSuspect(now, meter);
    }

    // Revisions and history

    public int revise() {
        if (now.count == 0) {
            return BAD_STATE;
        }
        if (now.revised >= MAX_REVISIONS) {
            return FULL;
        }
        history.push(now);
        bills.fill(now, energies);
        int number = now.revised;
        for (int meter = 0; meter < MAX_METERS; meter++) {
            now.kept[number][meter] = now.has(meter) ? sumOf(bills.billed[meter]) : NONE;
        }
        now.revised = number + 1;
        return number;
    }

    public int revisions() {
        return now.revised;
    }

    public int billOf(int revision, int meter) {
        if (!now.hasRevision(revision) || !now.has(meter)) {
            return BAD_INDEX;
        }
        return now.kept[revision][meter];
    }

    public int changed(int from, int to, int meter) {
        if (!now.hasRevision(from) || !now.hasRevision(to) || !now.has(meter)) {
            return BAD_INDEX;
        }
        return noneAsZero(now.kept[to][meter]) - noneAsZero(now.kept[from][meter]);
    }

    public int clearRevisions() {
        history.push(now);
        int previous = now.revised;
        now.revised = 0;
        return previous;
    }

    public int undo() {
        if (history.size == 0) {
            return BAD_STATE;
        }
        history.pop(now);
        return history.size;
    }

    // Text

    public int type(int code) {
        if (!within(code, 0, 255)) {
            return BAD_VALUE;
        }
        if (text.length >= MAX_TEXT) {
            return FULL;
        }
        text.bytes[text.length] = code;
        text.length++;
        return text.length;
    }

    public int clearText() {
        int previous = text.length;
        text.length = 0;
        return previous;
    }

    public int textFault() {
        return text.parse(now);
    }

    public int load() {
        if (text.parse(now) != NONE) {
            return BAD_STATE;
        }
        history.push(now);
        return text.apply(now);
    }

    public long digest() {
        long hash = mixed(17L, now.count);
        for (int meter = 0; meter < now.count; meter++) {
            hash = mixed(hash, now.parent[meter]);
            hash = mixed(hash, now.multiplier[meter]);
            hash = mixed(hash, now.digits[meter]);
            hash = mixed(hash, now.limit[meter]);
            hash = mixed(hash, now.weight[meter]);
            for (int boundary = 0; boundary < BOUNDARIES; boundary++) {
                hash = mixed(hash, now.readings[meter][boundary]);
            }
        }
        hash = mixed(hash, now.spike);
        hash = mixed(hash, now.tolerance);
        hash = mixed(hash, now.revised);
        for (int revision = 0; revision < now.revised; revision++) {
            for (int meter = 0; meter < now.count; meter++) {
                hash = mixed(hash, now.kept[revision][meter]);
            }
        }
        return hash;
    }

    private static long mixed(long hash, int value) {
        return 31L * hash + value;
    }

    private static boolean within(int value, int low, int high) {
        return value >= low && value <= high;
    }

    private static boolean isInterval(int interval) {
        return within(interval, 0, INTERVALS - 1);
    }

    private static boolean isBoundary(int boundary) {
        return within(boundary, 0, BOUNDARIES - 1);
    }

    private static int noneAsZero(int bill) {
        return bill == NONE ? 0 : bill;
    }

    private static int sumOf(int[] row) {
        int sum = 0;
        for (int value : row) {
            sum += value;
        }
        return sum;
    }

    private int sumOfLosses(int meter) {
        if (now.countChildren(meter) == 0) {
            return NONE;
        }
        energies.measureFamily(now, meter);
        int sum = 0;
        for (int interval = 0; interval < INTERVALS; interval++) {
            sum += energies.lossIn(now, meter, interval);
        }
        return sum;
    }

    private int countNotValid(int meter) {
        int found = 0;
        for (int interval = 0; interval < INTERVALS; interval++) {
            if (now.judge(meter, interval) != VALID) {
                found++;
            }
        }
        return found;
    }

    private float shareOf(int meter) {
        bills.fill(now, energies);
        int whole = sumOf(bills.billed[0]);
        if (whole == 0) {
            return 0.0f;
        }
        return (float) sumOf(bills.billed[meter]) / (float) whole;
    }

    /**
     * The bits of a float by arithmetic, because the language leaves no Float.floatToIntBits. A share
     * is 0 or lies far inside the range of the normal floats, so every step here is exact.
     */
    private static int bitsOf(float value) {
        if (value == 0.0f) {
            return 0;
        }
        float fraction = value < 0.0f ? -value : value;
        int exponent = 127;
        for (int step = 0; step < 126 && fraction >= 2.0f; step++) {
            fraction = fraction * 0.5f;
            exponent++;
        }
        for (int step = 0; step < 126 && fraction < 1.0f; step++) {
            fraction = fraction * 2.0f;
            exponent--;
        }
        int bits = (exponent << 23) + (int) ((fraction - 1.0f) * 8388608.0f);
        return value < 0.0f ? bits | 0x80000000 : bits;
    }

    /** All that undo() brings back: the meters with their readings, the rules, the revisions. */
    private static final class State {
        int count;
        int spike;
        int tolerance;
        int revised;
        final int[] parent;
        final int[] multiplier;
        final int[] digits;
        final int[] limit;
        final int[] weight;
        final int[][] readings;
        /** The bills of each revision; NONE for a meter that there was not yet. */
        final int[][] kept;

        State() {
            spike = 5;
            tolerance = 50;
            parent = new int[MAX_METERS];
            multiplier = new int[MAX_METERS];
            digits = new int[MAX_METERS];
            limit = new int[MAX_METERS];
            weight = new int[MAX_METERS];
            readings = new int[MAX_METERS][BOUNDARIES];
            kept = new int[MAX_REVISIONS][MAX_METERS];
        }

        void copyFrom(State other) {
            count = other.count;
            spike = other.spike;
            tolerance = other.tolerance;
            revised = other.revised;
            System.arraycopy(other.parent, 0, parent, 0, MAX_METERS);
            System.arraycopy(other.multiplier, 0, multiplier, 0, MAX_METERS);
            System.arraycopy(other.digits, 0, digits, 0, MAX_METERS);
            System.arraycopy(other.limit, 0, limit, 0, MAX_METERS);
            System.arraycopy(other.weight, 0, weight, 0, MAX_METERS);
            for (int meter = 0; meter < MAX_METERS; meter++) {
                System.arraycopy(other.readings[meter], 0, readings[meter], 0, BOUNDARIES);
            }
            for (int revision = 0; revision < MAX_REVISIONS; revision++) {
                System.arraycopy(other.kept[revision], 0, kept[revision], 0, MAX_METERS);
            }
        }

        boolean has(int meter) {
            return meter >= 0 && meter < count;
        }

        boolean hasRevision(int revision) {
            return revision >= 0 && revision < revised;
        }

        int append(int above) {
            int meter = count;
            if (meter >= MAX_METERS) {
                return FULL;
            }
            parent[meter] = meter == 0 ? NONE : above;
            multiplier[meter] = 1;
            digits[meter] = 5;
            limit[meter] = 10000;
            weight[meter] = 1;
            forgetReadings(meter);
            count = meter + 1;
            return meter;
        }

        void forgetReadings(int meter) {
            for (int boundary = 0; boundary < BOUNDARIES; boundary++) {
                readings[meter][boundary] = NONE;
            }
        }

        int countChildren(int meter) {
            int found = 0;
            for (int other = meter + 1; other < count; other++) {
                if (parent[other] == meter) {
                    found++;
                }
            }
            return found;
        }

        /** The child with an index, or NONE. */
        int findChild(int meter, int index) {
            int found = 0;
            for (int other = meter + 1; other < count; other++) {
                if (parent[other] == meter) {
                    if (found == index) {
                        return other;
                    }
                    found++;
                }
            }
            return NONE;
        }

        int countAbove(int meter) {
            int found = 0;
            int above = parent[meter];
            while (found < MAX_METERS && has(above)) {
                found++;
                above = parent[above];
            }
            return found;
        }

        /** 10 to the number of digits of a meter. */
        int span(int meter) {
            switch (digits[meter]) {
                case 3:
                    return 1000;
                case 4:
                    return 10000;
                case 5:
                    return 100000;
                default:
                    return 1000000;
            }
        }

        /** What the register counted between two boundaries, or NONE if a reading is missing. */
        int advance(int meter, int from, int to) {
            int first = readings[meter][from];
            int last = readings[meter][to];
            if (first == NONE || last == NONE) {
                return NONE;
            }
            return last >= first ? last - first : last - first + span(meter);
        }

        /** The status of an interval. */
        int judge(int meter, int interval) {
            int value = advance(meter, interval, interval + 1);
            if (value == NONE) {
                return MISSING;
            }
            if (value > limit[meter]) {
                return TOO_MUCH;
            }
            if (interval == 0 || interval == INTERVALS - 1 || value < LEAST_SPIKE) {
                return VALID;
            }
            int before = advance(meter, interval - 1, interval);
            int behind = advance(meter, interval + 1, interval + 2);
            if (before == NONE || before > limit[meter] || behind == NONE || behind > limit[meter]) {
                return VALID;
            }
            return value > spike * Math.max(before, behind) ? SPIKE : VALID;
        }
    }

    /** The latest states; their objects are used again, so that a long run of calls makes no new ones. */
    private static final class History {
        final State[] states;
        int size;

        History() {
            states = new State[MAX_HISTORY];
        }

        void push(State state) {
            if (size >= MAX_HISTORY) {
                dropOldest();
            }
            State slot = states[size];
            if (slot == null) {
                slot = new State();
                states[size] = slot;
            }
            slot.copyFrom(state);
            size++;
        }

        private void dropOldest() {
            State oldest = states[0];
            for (int index = 1; index < MAX_HISTORY; index++) {
                states[index - 1] = states[index];
            }
            states[MAX_HISTORY - 1] = oldest;
            size = MAX_HISTORY - 1;
        }

        void pop(State state) {
            if (size <= 0) {
                return;
            }
            size--;
            State slot = states[size];
            if (slot != null) {
                state.copyFrom(slot);
            }
        }
    }

    /** The energies of meters, and what follows from them and those of the children. */
    private static final class Energies {
        final int[][] energy;
        final int[][] quality;
        private final int[] status;

        Energies() {
            energy = new int[MAX_METERS][INTERVALS];
            quality = new int[MAX_METERS][INTERVALS];
            status = new int[INTERVALS];
        }

        void measureFamily(State state, int meter) {
            measure(state, meter);
            for (int other = meter + 1; other < state.count; other++) {
                if (state.parent[other] == meter) {
                    measure(state, other);
                }
            }
        }

        void measure(State state, int meter) {
            for (int interval = 0; interval < INTERVALS; interval++) {
                status[interval] = state.judge(meter, interval);
                if (status[interval] == VALID) {
                    energy[meter][interval] = state.advance(meter, interval, interval + 1) * state.multiplier[meter];
                    quality[meter][interval] = 0;
                }
            }
            // Only now, because an estimate also needs the valid interval behind its run.
            int start = 0;
            for (int interval = 0; interval < INTERVALS; interval++) {
                if (status[interval] == VALID) {
                    start = interval + 1;
                } else if (interval == INTERVALS - 1 || status[interval + 1] == VALID) {
                    estimate(state, meter, start, interval);
                }
            }
        }

        private void estimate(State state, int meter, int start, int end) {
            int advance = state.advance(meter, start, end + 1);
            int length = end - start + 1;
            if (isAllMissing(start, end) && advance != NONE && advance <= state.limit[meter] * length) {
                spread(meter, start, end, advance * state.multiplier[meter]);
            } else if (start > 0 && end < INTERVALS - 1) {
                interpolate(meter, start, end);
            } else if (start > 0) {
                level(meter, start, end, energy[meter][start - 1], 3);
            } else if (end < INTERVALS - 1) {
                level(meter, start, end, energy[meter][end + 1], 3);
            } else {
                level(meter, start, end, 0, 4);
            }
        }

        private boolean isAllMissing(int start, int end) {
            for (int interval = start; interval <= end; interval++) {
                if (status[interval] != MISSING) {
                    return false;
                }
            }
            return true;
        }

        private void spread(int meter, int start, int end, int total) {
            int length = end - start + 1;
            if (length <= 0) {
                return;
            }
            int more = total % length;
            for (int interval = start; interval <= end; interval++) {
                energy[meter][interval] = total / length + (interval - start < more ? 1 : 0);
                quality[meter][interval] = 1;
            }
        }

        private void interpolate(int meter, int start, int end) {
            int before = energy[meter][start - 1];
            int behind = energy[meter][end + 1];
            int steps = end - start + 2;
            if (steps <= 0) {
                return;
            }
            for (int interval = start; interval <= end; interval++) {
                energy[meter][interval] = (before * (end + 1 - interval) + behind * (interval - start + 1)) / steps;
                quality[meter][interval] = 2;
            }
        }

        private void level(int meter, int start, int end, int value, int grade) {
            for (int interval = start; interval <= end; interval++) {
                energy[meter][interval] = value;
                quality[meter][interval] = grade;
            }
        }

        int lossIn(State state, int meter, int interval) {
            int left = energy[meter][interval];
            for (int other = meter + 1; other < state.count; other++) {
                if (state.parent[other] == meter) {
                    left -= energy[other][interval];
                }
            }
            return left;
        }

        int balanceIn(State state, int meter, int interval) {
            int left = lossIn(state, meter, interval);
            if (left < 0) {
                return 1;
            }
            return left * 1000L > (long) energy[meter][interval] * state.tolerance ? 2 : 0;
        }

        int sumImbalance(State state, int meter) {
            int sum = 0;
            for (int interval = 0; interval < INTERVALS; interval++) {
                sum += Math.abs(lossIn(state, meter, interval));
            }
            return sum;
        }

        int sumImbalanceScaled(State state, int meter, int scaledChild, int factor) {
            int sum = 0;
            for (int interval = 0; interval < INTERVALS; interval++) {
                int own = energy[scaledChild][interval];
                sum += Math.abs(lossIn(state, meter, interval) + own - scaled(own, factor));
            }
            return sum;
        }

        /** 10 * child + factor, or NONE. */
        int findSuspect(State state, int meter) {
            int least = 0;
            int found = NONE;
            for (int other = meter + 1; other < state.count; other++) {
                if (state.parent[other] == meter) {
                    for (int factor = 0; factor < FACTORS; factor++) {
                        int sum = sumImbalanceScaled(state, meter, other, factor);
                        if (found == NONE || sum < least) {
                            least = sum;
                            found = 10 * other + factor;
                        }
                    }
                }
            }
            return least * 4L < sumImbalance(state, meter) ? found : NONE;
        }

        private static int scaled(int value, int factor) {
            switch (factor) {
                case 0:
                    return value / 10;
                case 1:
                    return value / 5;
                case 2:
                    return value / 4;
                case 3:
                    return value / 2;
                case 4:
                    return value * 2;
                case 5:
                    return value * 4;
                case 6:
                    return value * 5;
                default:
                    return value * 10;
            }
        }
    }

    /** The billed energies of all meters, after the losses are allocated. */
    private static final class Bills {
        final int[][] billed;
        private final long[] claim;
        private final long[] part;
        private final long[] remainder;

        Bills() {
            billed = new int[MAX_METERS][INTERVALS];
            claim = new long[MAX_METERS];
            part = new long[MAX_METERS];
            remainder = new long[MAX_METERS];
        }

        void fill(State state, Energies energies) {
            for (int meter = 0; meter < state.count; meter++) {
                energies.measure(state, meter);
            }
            System.arraycopy(energies.energy[0], 0, billed[0], 0, INTERVALS);
            // A parent has a lower number than its children, so it is billed before they are.
            for (int meter = 0; meter < state.count; meter++) {
                if (state.countChildren(meter) > 0) {
                    for (int interval = 0; interval < INTERVALS; interval++) {
                        allocate(state, energies, meter, interval);
                    }
                }
            }
        }

        private void allocate(State state, Energies energies, int meter, int interval) {
            long total = claimByEnergy(state, energies, meter, interval);
            if (total == 0) {
                total = claimByWeight(state, meter);
            }
            if (total <= 0) {
                return;
            }
            long difference = billed[meter][interval];
            for (int other = meter + 1; other < state.count; other++) {
                if (state.parent[other] == meter) {
                    difference -= energies.energy[other][interval];
                }
            }
            divide(state, meter, Math.abs(difference), total);
            for (int other = meter + 1; other < state.count; other++) {
                if (state.parent[other] == meter) {
                    int own = energies.energy[other][interval];
                    billed[other][interval] = (int) (difference < 0 ? own - part[other] : own + part[other]);
                }
            }
        }

        private long claimByEnergy(State state, Energies energies, int meter, int interval) {
            long total = 0;
            for (int other = meter + 1; other < state.count; other++) {
                if (state.parent[other] == meter) {
                    claim[other] = (long) state.weight[other] * energies.energy[other][interval];
                    total += claim[other];
                }
            }
            return total;
        }

        private long claimByWeight(State state, int meter) {
            long total = 0;
            for (int other = meter + 1; other < state.count; other++) {
                if (state.parent[other] == meter) {
                    claim[other] = state.weight[other];
                    total += claim[other];
                }
            }
            return total;
        }

        private void divide(State state, int meter, long amount, long total) {
            if (total <= 0) {
                return;
            }
            long left = amount;
            for (int other = meter + 1; other < state.count; other++) {
                if (state.parent[other] == meter) {
                    part[other] = amount * claim[other] / total;
                    remainder[other] = amount * claim[other] % total;
                    left -= part[other];
                }
            }
            for (int given = 0; given < MAX_METERS && given < left; given++) {
                giveOne(state, meter);
            }
        }

        private void giveOne(State state, int meter) {
            int best = NONE;
            for (int other = meter + 1; other < state.count; other++) {
                if (state.parent[other] == meter && (best < 0 || remainder[other] > remainder[best])) {
                    best = other;
                }
            }
            if (best >= 0) {
                part[best]++;
                // Below every true remainder, so that no child gets a second one.
                remainder[best] = -1;
            }
        }
    }

    /** The text, and the readings that were found when it was last parsed. */
    private static final class ReadingText {
        final int[] bytes;
        int length;
        private final int[] entryMeter;
        private final int[] entryBoundary;
        private final int[] entryValue;
        private int entries;
        private int position;
        private int fault;

        ReadingText() {
            bytes = new int[MAX_TEXT];
            entryMeter = new int[MAX_ENTRIES];
            entryBoundary = new int[MAX_ENTRIES];
            entryValue = new int[MAX_ENTRIES];
        }

        /** The fault of the text, or NONE. */
        int parse(State state) {
            position = 0;
            entries = 0;
            for (int turn = 0; turn < MAX_TEXT; turn++) {
                if (!parseEntry(state)) {
                    return fault;
                }
                skipBlanks();
                if (position >= length) {
                    return NONE;
                }
                if (!takeSign(';')) {
                    return fault;
                }
            }
            return position;
        }

        private boolean parseEntry(State state) {
            int meter = takeNumber(state.count);
            if (!state.has(meter) || !takeSign('@')) {
                return false;
            }
            int boundary = takeNumber(BOUNDARIES);
            if (boundary < 0 || !takeSign('=')) {
                return false;
            }
            skipBlanks();
            int value = NONE;
            if (peek() == '-') {
                position++;
            } else {
                value = takeNumber(state.span(meter));
                if (value < 0) {
                    return false;
                }
            }
            keep(meter, boundary, value);
            return true;
        }

        private void keep(int meter, int boundary, int value) {
            if (entries < MAX_ENTRIES) {
                entryMeter[entries] = meter;
                entryBoundary[entries] = boundary;
                entryValue[entries] = value;
                entries++;
            }
        }

        private int peek() {
            return position >= 0 && position < length ? bytes[position] : NONE;
        }

        private void skipBlanks() {
            while (position < length && peek() == ' ') {
                position++;
            }
        }

        private boolean takeSign(int sign) {
            skipBlanks();
            if (peek() != sign) {
                fault = position;
                return false;
            }
            position++;
            return true;
        }

        /** A number below a bound, or NONE with the fault noted. */
        private int takeNumber(int bound) {
            skipBlanks();
            int first = position;
            int value = 0;
            while (position < length && isDigit(peek())) {
                // Further digits make the number a fault anyway, and could overflow the value.
                if (position - first < MAX_DIGITS) {
                    value = value * 10 + peek() - '0';
                }
                position++;
            }
            int taken = position - first;
            if (taken == 0 || taken > MAX_DIGITS || value >= bound) {
                fault = first;
                return NONE;
            }
            return value;
        }

        private static boolean isDigit(int code) {
            return code >= '0' && code <= '9';
        }

        /** Sets and removes the readings of the entries; answers how many of them are numbers. */
        int apply(State state) {
            int numbers = 0;
            for (int entry = 0; entry < entries; entry++) {
                int meter = entryMeter[entry];
                int boundary = entryBoundary[entry];
                if (state.has(meter) && isBoundary(boundary)) {
                    state.readings[meter][boundary] = entryValue[entry];
                }
                if (entryValue[entry] != NONE) {
                    numbers++;
                }
            }
            return numbers;
        }
    }
}
