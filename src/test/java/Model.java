import java.math.BigInteger;
import java.util.ArrayList;
import java.util.Comparator;
import java.util.List;
import java.util.TreeMap;

/**
 * The document written down a second time, with other means: maps, lists, whole numbers without
 * bounds, a copy of the whole state for each recorded call, a text taken apart into tokens first.
 */
final class Model {
    static final int NONE = -2000000000, BAD_INDEX = -2000000001, BAD_VALUE = -2000000002, BAD_STATE = -2000000003, FULL = -2000000004;

    private static final int[] TIMES = {1, 1, 1, 1, 2, 4, 5, 10};
    private static final int[] PARTS = {10, 5, 4, 2, 1, 1, 1, 1};

    private static final class Meter {
        int parent = NONE, multiplier = 1, digits = 5, limit = 10000, weight = 1;
        TreeMap<Integer, Integer> readings = new TreeMap<>();

        Meter copy() {
            Meter copy = new Meter();
            copy.parent = parent;
            copy.multiplier = multiplier;
            copy.digits = digits;
            copy.limit = limit;
            copy.weight = weight;
            copy.readings.putAll(readings);
            return copy;
        }

        int modulus() {
            return BigInteger.TEN.pow(digits).intValueExact();
        }
    }

    private static final class Day {
        List<Meter> meters = new ArrayList<>();
        int spike = 5, tolerance = 50;
        List<List<Integer>> revisions = new ArrayList<>();

        Day copy() {
            Day copy = new Day();
            for (Meter meter : meters) {
                copy.meters.add(meter.copy());
            }
            copy.spike = spike;
            copy.tolerance = tolerance;
            for (List<Integer> bills : revisions) {
                copy.revisions.add(new ArrayList<>(bills));
            }
            return copy;
        }
    }

    /** What an interval of a meter has. */
    private record Energy(long energy, int quality) {
    }

    /** A number, or a single byte, of the text. */
    private record Token(char kind, int start, String digits) {
    }

    private record Entry(int meter, int boundary, Integer value) {
    }

    private Day day = new Day();
    private final List<Day> history = new ArrayList<>();
    private final StringBuilder text = new StringBuilder();

    private void record() {
        history.add(day.copy());
        if (history.size() > 5) {
            history.remove(0);
        }
    }

    private boolean no(int meter) {
        return meter < 0 || meter >= day.meters.size();
    }

    private static boolean out(int value, int low, int high) {
        return value < low || value > high;
    }

    private List<Integer> children(int meter) {
        List<Integer> found = new ArrayList<>();
        for (int other = 0; other < day.meters.size(); other++) {
            if (day.meters.get(other).parent == meter) {
                found.add(other);
            }
        }
        return found;
    }

    int addMeter(int parent) {
        if (!day.meters.isEmpty() && no(parent)) return BAD_INDEX;
        if (day.meters.size() == 10) return FULL;
        record();
        Meter meter = new Meter();
        meter.parent = day.meters.isEmpty() ? NONE : parent;
        day.meters.add(meter);
        return day.meters.size() - 1;
    }

    int setMeter(int meter, int multiplier, int weight) {
        if (no(meter)) return BAD_INDEX;
        if (out(multiplier, 1, 100) || out(weight, 1, 100)) return BAD_VALUE;
        record();
        Meter it = day.meters.get(meter);
        int previous = it.multiplier;
        it.multiplier = multiplier;
        it.weight = weight;
        return previous;
    }

    int setRegister(int meter, int digits, int limit) {
        if (no(meter)) return BAD_INDEX;
        if (out(digits, 3, 6) || out(limit, 1, 50000)) return BAD_VALUE;
        record();
        Meter it = day.meters.get(meter);
        int previous = it.digits;
        it.digits = digits;
        it.limit = limit;
        if (previous != digits) it.readings.clear();
        return previous;
    }

    int setRules(int spike, int tolerance) {
        if (out(spike, 2, 20) || out(tolerance, 0, 1000)) return BAD_VALUE;
        record();
        int previous = day.spike;
        day.spike = spike;
        day.tolerance = tolerance;
        return previous;
    }

    int meters() {
        return day.meters.size();
    }

    int meter(int meter, int what) {
        if (no(meter)) return BAD_INDEX;
        if (out(what, 0, 6)) return BAD_VALUE;
        Meter it = day.meters.get(meter);
        int depth = 0;
        for (int above = it.parent; above != NONE; above = day.meters.get(above).parent) depth++;
        return new int[] {it.parent, it.multiplier, it.digits, it.limit, it.weight, children(meter).size(), depth}[what];
    }

    int child(int meter, int index) {
        if (no(meter) || out(index, 0, children(meter).size() - 1)) return BAD_INDEX;
        return children(meter).get(index);
    }

    int setReading(int meter, int boundary, int value) {
        if (no(meter) || out(boundary, 0, 12)) return BAD_INDEX;
        Meter it = day.meters.get(meter);
        if (out(value, 0, it.modulus() - 1)) return BAD_VALUE;
        record();
        Integer previous = it.readings.put(boundary, value);
        return previous == null ? NONE : previous;
    }

    int setAll(int meter, int start, int step) {
        if (no(meter)) return BAD_INDEX;
        Meter it = day.meters.get(meter);
        if (out(start, 0, it.modulus() - 1) || out(step, 0, it.modulus() - 1)) return BAD_VALUE;
        record();
        for (int boundary = 0; boundary <= 12; boundary++) {
            it.readings.put(boundary, (int) ((start + (long) boundary * step) % it.modulus()));
        }
        return it.readings.get(12);
    }

    int removeReading(int meter, int boundary) {
        if (no(meter) || out(boundary, 0, 12)) return BAD_INDEX;
        record();
        Integer previous = day.meters.get(meter).readings.remove(boundary);
        return previous == null ? NONE : previous;
    }

    int reading(int meter, int boundary) {
        if (no(meter) || out(boundary, 0, 12)) return BAD_INDEX;
        return day.meters.get(meter).readings.getOrDefault(boundary, NONE);
    }

    /** ADVANCE(a, b), or null. */
    private Long advance(int meter, int a, int b) {
        Meter it = day.meters.get(meter);
        Integer first = it.readings.get(a);
        Integer last = it.readings.get(b);
        if (first == null || last == null) return null;
        return (long) Math.floorMod(last - first, it.modulus());
    }

    int raw(int meter, int interval) {
        if (no(meter) || out(interval, 0, 11)) return BAD_INDEX;
        Long raw = advance(meter, interval, interval + 1);
        return raw == null ? NONE : raw.intValue();
    }

    int status(int meter, int interval) {
        if (no(meter) || out(interval, 0, 11)) return BAD_INDEX;
        Long raw = advance(meter, interval, interval + 1);
        long limit = day.meters.get(meter).limit;
        if (raw == null) return 1;
        if (raw > limit) return 2;
        if (interval >= 1 && interval <= 10 && raw >= 10) {
            Long before = advance(meter, interval - 1, interval);
            Long behind = advance(meter, interval + 1, interval + 2);
            boolean fair = before != null && behind != null && before <= limit && behind <= limit;
            if (fair && raw > day.spike * before && raw > day.spike * behind) return 3;
        }
        return 0;
    }

    /** The energy of one interval, found from this interval alone. */
    private Energy measured(int meter, int interval) {
        Meter it = day.meters.get(meter);
        if (status(meter, interval) == 0) {
            return new Energy(advance(meter, interval, interval + 1) * it.multiplier, 0);
        }
        int s = interval;
        int e = interval;
        while (s > 0 && status(meter, s - 1) != 0) s--;
        while (e < 11 && status(meter, e + 1) != 0) e++;
        boolean missing = true;
        for (int other = s; other <= e; other++) missing &= status(meter, other) == 1;
        Long whole = advance(meter, s, e + 1);
        long n = e - s + 1;
        if (missing && whole != null && whole <= it.limit * n) {
            long t = whole * it.multiplier;
            return new Energy(t / n + (interval - s < t % n ? 1 : 0), 1);
        }
        if (s > 0 && e < 11) {
            long a = measured(meter, s - 1).energy;
            long b = measured(meter, e + 1).energy;
            return new Energy((a * (e + 1 - interval) + b * (interval - s + 1)) / (e - s + 2), 2);
        }
        if (s > 0) return new Energy(measured(meter, s - 1).energy, 3);
        if (e < 11) return new Energy(measured(meter, e + 1).energy, 3);
        return new Energy(0, 4);
    }

    int energy(int meter, int interval) {
        if (no(meter) || out(interval, 0, 11)) return BAD_INDEX;
        return Math.toIntExact(measured(meter, interval).energy);
    }

    int quality(int meter, int interval) {
        if (no(meter) || out(interval, 0, 11)) return BAD_INDEX;
        return measured(meter, interval).quality;
    }

    int day(int meter, int what) {
        if (no(meter)) return BAD_INDEX;
        if (out(what, 0, 3)) return BAD_VALUE;
        if (what == 1 && children(meter).isEmpty()) return NONE;
        long sum = 0;
        for (int interval = 0; interval < 12; interval++) {
            switch (what) {
                case 0 -> sum += energy(meter, interval);
                case 1 -> sum += loss(meter, interval);
                case 2 -> sum += billed(meter, interval);
                default -> sum += status(meter, interval) == 0 ? 0 : 1;
            }
        }
        return Math.toIntExact(sum);
    }

    int loss(int meter, int interval) {
        if (no(meter) || out(interval, 0, 11)) return BAD_INDEX;
        if (children(meter).isEmpty()) return NONE;
        int left = energy(meter, interval);
        for (int child : children(meter)) left = Math.subtractExact(left, energy(child, interval));
        return left;
    }

    int balance(int meter, int interval) {
        int loss = loss(meter, interval);
        if (loss == BAD_INDEX || loss == NONE) return loss;
        if (loss < 0) return 1;
        BigInteger left = BigInteger.valueOf(loss).multiply(BigInteger.valueOf(1000));
        BigInteger right = BigInteger.valueOf(energy(meter, interval)).multiply(BigInteger.valueOf(day.tolerance));
        return left.compareTo(right) > 0 ? 2 : 0;
    }

    int nextFault(int meter, int interval) {
        if (no(meter)) return BAD_INDEX;
        if (out(interval, -1, 11)) return BAD_VALUE;
        if (children(meter).isEmpty()) return NONE;
        for (int next = interval + 1; next <= 11; next++) {
            if (balance(meter, next) != 0) return next;
        }
        return NONE;
    }

    int billed(int meter, int interval) {
        if (no(meter) || out(interval, 0, 11)) return BAD_INDEX;
        return Math.addExact(energy(meter, interval), part(meter, interval));
    }

    /** The part of a meter, found from the top downwards along its line alone. */
    int part(int meter, int interval) {
        if (no(meter) || out(interval, 0, 11)) return BAD_INDEX;
        if (meter == 0) return 0;
        int p = day.meters.get(meter).parent;
        List<Integer> below = children(p);
        BigInteger d = BigInteger.valueOf(billed(p, interval));
        BigInteger all = BigInteger.ZERO;
        List<BigInteger> claims = new ArrayList<>();
        for (int child : below) {
            d = d.subtract(BigInteger.valueOf(energy(child, interval)));
            claims.add(BigInteger.valueOf(day.meters.get(child).weight).multiply(BigInteger.valueOf(energy(child, interval))));
            all = all.add(claims.get(claims.size() - 1));
        }
        if (all.signum() == 0) {
            for (int place = 0; place < below.size(); place++) {
                claims.set(place, BigInteger.valueOf(day.meters.get(below.get(place)).weight));
                all = all.add(claims.get(place));
            }
        }
        List<BigInteger[]> parts = new ArrayList<>();
        List<Integer> places = new ArrayList<>();
        BigInteger left = d.abs();
        for (int place = 0; place < below.size(); place++) {
            parts.add(d.abs().multiply(claims.get(place)).divideAndRemainder(all));
            left = left.subtract(parts.get(place)[0]);
            places.add(place);
        }
        // A stable sort: of equal remainders the lower number stays in front.
        places.sort(Comparator.comparing((Integer place) -> parts.get(place)[1]).reversed());
        int mine = below.indexOf(meter);
        int part = parts.get(mine)[0].intValueExact() + (places.indexOf(mine) < left.intValueExact() ? 1 : 0);
        return d.signum() < 0 ? -part : part;
    }

    private float fraction(int meter) {
        int main = day(0, 2);
        return main == 0 ? 0.0f : (float) day(meter, 2) / (float) main;
    }

    int shareBits(int meter) {
        return no(meter) ? BAD_INDEX : Float.floatToIntBits(fraction(meter));
    }

    int share(int meter) {
        return no(meter) ? BAD_INDEX : (int) (fraction(meter) * 1000.0f);
    }

    int imbalance(int meter) {
        if (no(meter)) return BAD_INDEX;
        if (children(meter).isEmpty()) return NONE;
        return Math.toIntExact(imbalanceOf(meter, -1, 1, 1));
    }

    private long imbalanceOf(int meter, int changed, int times, int parts) {
        long sum = 0;
        for (int interval = 0; interval < 12; interval++) {
            long left = energy(meter, interval);
            for (int child : children(meter)) {
                long own = energy(child, interval);
                left -= child == changed ? Math.floorDiv(own * times, (long) parts) : own;
            }
            sum += Math.abs(left);
        }
        return sum;
    }

    int imbalanceWith(int meter, int index, int factor) {
        if (no(meter) || child(meter, index) == BAD_INDEX) return BAD_INDEX;
        if (out(factor, 0, 7)) return BAD_VALUE;
        return Math.toIntExact(imbalanceOf(meter, child(meter, index), TIMES[factor], PARTS[factor]));
    }

    int suspect(int meter) {
        if (no(meter)) return BAD_INDEX;
        int found = NONE;
        long least = Long.MAX_VALUE;
        for (int child : children(meter)) {
            for (int factor = 0; factor < 8; factor++) {
                long sum = imbalanceOf(meter, child, TIMES[factor], PARTS[factor]);
                if (sum < least) {
                    least = sum;
                    found = 10 * child + factor;
                }
            }
        }
        return found == NONE || least * 4 >= imbalanceOf(meter, -1, 1, 1) ? NONE : found;
    }

    int revise() {
        if (day.meters.isEmpty()) return BAD_STATE;
        if (day.revisions.size() == 8) return FULL;
        record();
        List<Integer> bills = new ArrayList<>();
        for (int meter = 0; meter < day.meters.size(); meter++) bills.add(day(meter, 2));
        day.revisions.add(bills);
        return day.revisions.size() - 1;
    }

    int revisions() {
        return day.revisions.size();
    }

    int billOf(int revision, int meter) {
        if (out(revision, 0, day.revisions.size() - 1) || no(meter)) return BAD_INDEX;
        List<Integer> bills = day.revisions.get(revision);
        return meter < bills.size() ? bills.get(meter) : NONE;
    }

    int changed(int from, int to, int meter) {
        int first = billOf(from, meter);
        int last = billOf(to, meter);
        if (first == BAD_INDEX || last == BAD_INDEX) return BAD_INDEX;
        return (last == NONE ? 0 : last) - (first == NONE ? 0 : first);
    }

    int clearRevisions() {
        record();
        int previous = day.revisions.size();
        day.revisions.clear();
        return previous;
    }

    int undo() {
        if (history.isEmpty()) return BAD_STATE;
        day = history.remove(history.size() - 1);
        return history.size();
    }

    int type(int code) {
        if (out(code, 0, 255)) return BAD_VALUE;
        if (text.length() == 120) return FULL;
        text.append((char) code);
        return text.length();
    }

    int clearText() {
        int previous = text.length();
        text.setLength(0);
        return previous;
    }

    private List<Token> tokens() {
        List<Token> found = new ArrayList<>();
        int at = 0;
        while (at < text.length()) {
            int start = at;
            while (at < text.length() && text.charAt(at) >= '0' && text.charAt(at) <= '9') at++;
            if (at > start) {
                found.add(new Token('n', start, text.substring(start, at)));
            } else {
                if (text.charAt(at) != ' ') {
                    // A byte that stands for no sign of the grammar gets the kind '?'.
                    char sign = text.charAt(at);
                    found.add(new Token("@=;-".indexOf(sign) >= 0 ? sign : '?', at, ""));
                }
                at++;
            }
        }
        return found;
    }

    /** Takes the text apart into entries; answers its fault, or NONE. */
    private int read(List<Entry> entries) {
        List<Token> tokens = tokens();
        int[] numbers = new int[3];
        int place = 0;
        for (Token token : tokens) {
            String due = new String[] {"n", "@", "n", "=", "n-", ";"}[place];
            if (due.indexOf(token.kind) < 0) return token.start;
            if (token.kind == 'n') {
                if (token.digits.length() > 6) return token.start;
                int value = Integer.parseInt(token.digits);
                int bound = place == 0 ? day.meters.size() : place == 2 ? 13 : day.meters.get(numbers[0]).modulus();
                if (value >= bound) return token.start;
                numbers[place / 2] = value;
            }
            if (place == 4) entries.add(new Entry(numbers[0], numbers[1], token.kind == '-' ? null : numbers[2]));
            place = (place + 1) % 6;
        }
        return place == 5 ? NONE : text.length();
    }

    int textFault() {
        return read(new ArrayList<>());
    }

    int load() {
        List<Entry> entries = new ArrayList<>();
        if (read(entries) != NONE) return BAD_STATE;
        record();
        int numbers = 0;
        for (Entry entry : entries) {
            TreeMap<Integer, Integer> readings = day.meters.get(entry.meter).readings;
            if (entry.value == null) {
                readings.remove(entry.boundary);
            } else {
                readings.put(entry.boundary, entry.value);
                numbers++;
            }
        }
        return numbers;
    }

    long digest() {
        List<Integer> numbers = new ArrayList<>();
        numbers.add(meters());
        for (int meter = 0; meter < meters(); meter++) {
            for (int what = 0; what <= 4; what++) numbers.add(meter(meter, what));
            for (int boundary = 0; boundary <= 12; boundary++) numbers.add(reading(meter, boundary));
        }
        numbers.add(day.spike);
        numbers.add(day.tolerance);
        numbers.add(revisions());
        for (int revision = 0; revision < revisions(); revision++) {
            for (int meter = 0; meter < meters(); meter++) numbers.add(billOf(revision, meter));
        }
        BigInteger hash = BigInteger.valueOf(17);
        for (int number : numbers) {
            hash = hash.multiply(BigInteger.valueOf(31)).add(BigInteger.valueOf(number));
        }
        return hash.longValue();
    }
}
