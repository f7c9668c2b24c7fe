import java.util.Random;

/** Long runs of calls, drawn from fixed seeds, on the class and on the model: all answers are the same. */
public final class ModelTest {
    private static final int RUNS = 1000;
    /** The document promises nothing behind this call. */
    private static final int CALLS = 512;
    /** Room for the dearest step but the text, and for a text. */
    private static final int STEP = 45;
    private static final int TEXT = 300;

    private final Random random;
    private final MeterTree tree = new MeterTree();
    private final Model model = new Model();
    private final String run;
    /** Which sizes the run prefers, so that small and great values both meet their like. */
    private final int size;
    private int calls = 0;

    private ModelTest(int seed) {
        random = new Random(seed);
        run = "run " + seed + ": ";
        size = seed % 4;
    }

    public static void main(String[] args) {
        for (int seed = 1; seed <= RUNS; seed++) {
            new ModelTest(seed).play();
        }
        Checks.end("ModelTest");
    }

    private void play() {
        int first = 1 + random.nextInt(10);
        for (int meter = 0; meter < first; meter++) {
            int parent = random.nextInt(Math.max(1, meter));
            due("addMeter", tree.addMeter(parent), model.addMeter(parent));
        }
        while (calls < CALLS - STEP) {
            switch (random.nextInt(4)) {
                case 0 -> settle();
                case 1 -> read();
                case 2 -> ask();
                default -> bill();
            }
            due("digest()", tree.digest(), model.digest());
        }
    }

    private void due(String call, long got, long want) {
        calls++;
        Checks.due(run + call, got, want);
    }

    /** Mostly 0 to bound - 1, its ends more often, at times something beside it. */
    private int pick(int bound) {
        int chance = random.nextInt(40);
        if (chance == 3) return 0;
        if (chance == 4) return Math.max(0, bound - 1);
        if (chance == 0) return -1;
        if (chance == 1) return bound;
        if (chance == 2) return random.nextBoolean() ? random.nextInt() : Integer.MIN_VALUE;
        return random.nextInt(Math.max(1, bound));
    }

    private int meter() {
        return pick(model.meters());
    }

    private int value(int meter) {
        int digits = model.meter(meter, 2);
        int modulus = digits < 0 ? 1000 : (int) Math.pow(10, digits);
        return pick(modulus);
    }

    private void settle() {
        int meter = meter();
        int a = pick(101);
        int b = pick(101);
        switch (random.nextInt(12)) {
            case 0 -> due("addMeter(" + meter + ")", tree.addMeter(meter), model.addMeter(meter));
            case 1, 2 -> due("setMeter(" + meter + ", " + a + ", " + b + ")", tree.setMeter(meter, a, b), model.setMeter(meter, a, b));
            case 3, 4 -> {
                int digits = random.nextInt(8) == 0 ? pick(7) : Math.max(3, model.meter(meter, 2));
                int limit = size == 0 ? 1 + pick(20) : size == 3 ? 50000 - pick(4) : pick(50001);
                due("setRegister(" + meter + ", " + digits + ", " + limit + ")",
                    tree.setRegister(meter, digits, limit), model.setRegister(meter, digits, limit));
            }
            case 5 -> {
                int spike = pick(21);
                int tolerance = pick(1001);
                due("setRules(" + spike + ", " + tolerance + ")", tree.setRules(spike, tolerance), model.setRules(spike, tolerance));
            }
            case 6 -> due("revise()", tree.revise(), model.revise());
            case 7 -> {
                if (random.nextInt(6) == 0) due("clearRevisions()", tree.clearRevisions(), model.clearRevisions());
            }
            case 8 -> {
                for (int left = random.nextInt(3) == 0 ? 6 : 1; left > 0; left--) {
                    due("undo()", tree.undo(), model.undo());
                    due("digest()", tree.digest(), model.digest());
                }
            }
            case 9, 10 -> {
                if (calls < CALLS - TEXT) text();
            }
            default -> {
                int what = pick(7);
                due("meter(" + meter + ", " + what + ")", tree.meter(meter, what), model.meter(meter, what));
                due("child(" + meter + ", " + what + ")", tree.child(meter, what), model.child(meter, what));
                due("meters()", tree.meters(), model.meters());
            }
        }
    }

    private void read() {
        int meter = meter();
        int boundary = pick(13);
        switch (random.nextInt(9)) {
            case 8 -> spike(meter, boundary);
            case 0, 1 -> {
                int start = value(meter);
                int step = size == 3 ? 50000 - pick(9) : size == 2 ? pick(3000) : pick(size == 0 ? 20 : 300);
                due("setAll(" + meter + ", " + start + ", " + step + ")", tree.setAll(meter, start, step), model.setAll(meter, start, step));
            }
            case 2 -> due("removeReading(" + meter + ", " + boundary + ")", tree.removeReading(meter, boundary), model.removeReading(meter, boundary));
            case 3 -> due("reading(" + meter + ", " + boundary + ")", tree.reading(meter, boundary), model.reading(meter, boundary));
            case 4 -> {
                int value = value(meter);
                due("setReading(" + meter + ", " + boundary + ", " + value + ")",
                    tree.setReading(meter, boundary, value), model.setReading(meter, boundary, value));
            }
            default -> {
                // Near the reading before, so that the interval is not always too much.
                int before = model.reading(meter, boundary - 1);
                int value = before < 0 ? value(meter) : (before + pick(size == 0 ? 16 : size == 1 ? 200 : 60000)) % 1000000;
                due("setReading(" + meter + ", " + boundary + ", " + value + ")",
                    tree.setReading(meter, boundary, value), model.setReading(meter, boundary, value));
            }
        }
    }

    /** Four readings whose middle interval is about as great as a spike must be. */
    private void spike(int meter, int boundary) {
        int digits = model.meter(meter, 2);
        int modulus = digits < 0 ? 1000 : (int) Math.pow(10, digits);
        int side = random.nextInt(random.nextBoolean() ? 4 : 120);
        int middle = side * (random.nextBoolean() ? 5 : 2 + random.nextInt(19)) + random.nextInt(3) - 1;
        int[] steps = {0, side, random.nextInt(4) == 0 ? 9 + random.nextInt(3) : middle, random.nextInt(side + 1)};
        int value = value(meter);
        for (int step = 0; step < 4; step++) {
            value = Math.floorMod(value + steps[step], modulus);
            int at = boundary + step;
            due("setReading(" + meter + ", " + at + ", " + value + ")", tree.setReading(meter, at, value), model.setReading(meter, at, value));
        }
        due("status", tree.status(meter, boundary + 1), model.status(meter, boundary + 1));
    }

    private void ask() {
        int meter = meter();
        int interval = pick(12);
        String with = "(" + meter + ", " + interval + ")";
        switch (random.nextInt(8)) {
            case 0 -> due("raw" + with, tree.raw(meter, interval), model.raw(meter, interval));
            case 1 -> due("status" + with, tree.status(meter, interval), model.status(meter, interval));
            case 2 -> due("energy" + with, tree.energy(meter, interval), model.energy(meter, interval));
            case 3 -> due("quality" + with, tree.quality(meter, interval), model.quality(meter, interval));
            case 4 -> due("loss" + with, tree.loss(meter, interval), model.loss(meter, interval));
            case 5 -> due("balance" + with, tree.balance(meter, interval), model.balance(meter, interval));
            case 6 -> {
                int behind = pick(13) - 1;
                due("nextFault(" + meter + ", " + behind + ")", tree.nextFault(meter, behind), model.nextFault(meter, behind));
            }
            default -> everyInterval(meter);
        }
    }

    private void everyInterval(int meter) {
        for (int interval = 0; interval < 12; interval++) {
            String with = "(" + meter + ", " + interval + ")";
            due("status" + with, tree.status(meter, interval), model.status(meter, interval));
            due("energy" + with, tree.energy(meter, interval), model.energy(meter, interval));
            due("quality" + with, tree.quality(meter, interval), model.quality(meter, interval));
        }
    }

    private void bill() {
        int meter = meter();
        int interval = pick(12);
        int index = pick(3);
        int factor = pick(8);
        int from = pick(model.revisions());
        int to = pick(model.revisions());
        switch (random.nextInt(10)) {
            case 0 -> due("billed", tree.billed(meter, interval), model.billed(meter, interval));
            case 1 -> due("part", tree.part(meter, interval), model.part(meter, interval));
            case 2 -> due("day(" + meter + ", " + index + ")", tree.day(meter, index), model.day(meter, index));
            case 3 -> due("day(" + meter + ", " + factor + ")", tree.day(meter, factor), model.day(meter, factor));
            case 4 -> {
                due("shareBits(" + meter + ")", tree.shareBits(meter), model.shareBits(meter));
                due("share(" + meter + ")", tree.share(meter), model.share(meter));
            }
            case 5 -> due("imbalance(" + meter + ")", tree.imbalance(meter), model.imbalance(meter));
            case 6 -> due("suspect(" + meter + ")", tree.suspect(meter), model.suspect(meter));
            case 7 -> due("imbalanceWith(" + meter + ", " + index + ", " + factor + ")",
                tree.imbalanceWith(meter, index, factor), model.imbalanceWith(meter, index, factor));
            case 8 -> due("billOf(" + from + ", " + meter + ")", tree.billOf(from, meter), model.billOf(from, meter));
            default -> {
                due("changed(" + from + ", " + to + ", " + meter + ")", tree.changed(from, to, meter), model.changed(from, to, meter));
                due("revisions()", tree.revisions(), model.revisions());
            }
        }
    }

    /** A text of the grammar, at times with a byte that spoils it, typed and loaded. */
    private void text() {
        if (random.nextInt(5) > 0) due("clearText()", tree.clearText(), model.clearText());
        StringBuilder text = new StringBuilder();
        int entries = random.nextInt(random.nextInt(5) == 0 ? 25 : 5);
        for (int entry = 0; entry < entries; entry++) {
            if (entry > 0) text.append(';');
            text.append(blanks()).append(Math.max(0, meter())).append(blanks()).append('@').append(blanks());
            text.append(Math.max(0, random.nextInt(30) == 0 ? 13 : random.nextInt(13))).append(blanks()).append('=').append(blanks());
            text.append(random.nextInt(4) == 0 ? "-" : random.nextInt(9) == 0 ? "0000123" : "" + random.nextInt(random.nextInt(20) == 0 ? 1200 : 900));
            text.append(blanks());
        }
        if (text.length() > 0 && random.nextInt(4) == 0) {
            int code = random.nextBoolean() ? "0123456789@=;- ".charAt(random.nextInt(15)) : random.nextInt(256);
            text.setCharAt(random.nextInt(text.length()), (char) code);
        }
        if (text.length() > 0 && random.nextInt(8) == 0) text.setLength(random.nextInt(text.length()));
        for (int at = 0; at < text.length(); at++) {
            due("type", tree.type(text.charAt(at)), model.type(text.charAt(at)));
        }
        int code = pick(256);
        if (random.nextInt(6) == 0) due("type(" + code + ")", tree.type(code), model.type(code));
        due("textFault() of '" + text + "'", tree.textFault(), model.textFault());
        due("load() of '" + text + "'", tree.load(), model.load());
    }

    private String blanks() {
        return random.nextInt(12) == 0 ? "  ".substring(random.nextInt(2)) : "";
    }
}
