/** Promises 9 to 14: readings, raw values, status. */
public final class ReadingsTest {
    private static final int[] WRONG_BOUNDARIES = {-1, 13, Integer.MIN_VALUE, Integer.MAX_VALUE};
    private static final int[] WRONG_INTERVALS = {-1, 12, Integer.MIN_VALUE, Integer.MAX_VALUE};

    public static void main(String[] args) {
        promise9();
        promise10();
        promise11();
        promise12();
        promise13();
        promise14();
        promise14Spikes();
        Checks.end("ReadingsTest");
    }

    private static void promise9() {
        MeterTree tree = Checks.tree(0, 0);
        Checks.due("setReading", tree.setReading(1, 0, 0), Checks.NONE);
        Checks.due("setReading", tree.setReading(1, 0, 99999), 0);
        Checks.due("setReading", tree.setReading(1, 12, 7), Checks.NONE);
        Checks.due("setReading", tree.setReading(1, 0, 5), 99999);
        Checks.due("reading", tree.reading(1, 0), 5);
        Checks.due("reading", tree.reading(1, 12), 7);
        Checks.due("other meter", tree.reading(0, 0), Checks.NONE);
        long before = tree.digest();
        Checks.due("too great", tree.setReading(1, 0, 100000), Checks.BAD_VALUE);
        Checks.due("negative", tree.setReading(1, 0, -1), Checks.BAD_VALUE);
        Checks.due("NONE as value", tree.setReading(1, 0, Checks.NONE), Checks.BAD_VALUE);
        Checks.due("no meter", tree.setReading(2, 0, -1), Checks.BAD_INDEX);
        for (int boundary : WRONG_BOUNDARIES) {
            Checks.due("no boundary", tree.setReading(1, boundary, -1), Checks.BAD_INDEX);
        }
        Checks.due("nothing changed", tree.digest(), before);
        tree.undo();
        Checks.due("undone", tree.reading(1, 0), 99999);
        int[] greatest = {999, 9999, 99999, 999999};
        for (int digits = 3; digits <= 6; digits++) {
            tree.setRegister(0, digits, 1);
            Checks.due("greatest", tree.setReading(0, 3, greatest[digits - 3]), Checks.NONE);
            Checks.due("too great", tree.setReading(0, 3, greatest[digits - 3] + 1), Checks.BAD_VALUE);
        }
        MeterTree first = Checks.tree(0);
        first.setReading(0, 0, 1);
        Checks.due("an answer of NONE is recorded", Checks.historyOf(first), 2);
    }

    private static void promise10() {
        MeterTree tree = Checks.tree(0, 0);
        Checks.due("setAll(1, 99990, 100)", tree.setAll(1, 99990, 100), 1190);
        Checks.due("start", tree.reading(1, 0), 99990);
        Checks.due("next", tree.reading(1, 1), 90);
        Checks.due("other meter", tree.reading(0, 0), Checks.NONE);
        Checks.due("setAll step 0", tree.setAll(1, 4, 0), 4);
        Checks.due("setAll greatest", tree.setAll(1, 99999, 99999), 99987);
        for (int boundary = 0; boundary <= 12; boundary++) {
            Checks.due("each reading", tree.reading(1, boundary), 99999 - boundary);
        }
        Checks.due("setAll that meets 0", tree.setAll(1, 99990, 10), 110);
        Checks.due("meets 0", tree.reading(1, 1), 0);
        Checks.due("setAll(0, 0, 0)", tree.setAll(0, 0, 0), 0);
        long before = tree.digest();
        Checks.due("start -1", tree.setAll(1, -1, 0), Checks.BAD_VALUE);
        Checks.due("step -1", tree.setAll(1, 0, -1), Checks.BAD_VALUE);
        Checks.due("start too great", tree.setAll(1, 100000, 0), Checks.BAD_VALUE);
        Checks.due("step too great", tree.setAll(1, 0, 100000), Checks.BAD_VALUE);
        Checks.due("no meter", tree.setAll(2, -1, -1), Checks.BAD_INDEX);
        Checks.due("no meter", tree.setAll(-1, 0, 0), Checks.BAD_INDEX);
        Checks.due("nothing changed", tree.digest(), before);
        tree.undo();
        Checks.due("undone", tree.reading(0, 0), Checks.NONE);
        tree.setRegister(0, 3, 100);
        Checks.due("three digits", tree.setAll(0, 990, 20), 230);
        Checks.due("three digits, too great", tree.setAll(0, 0, 1000), Checks.BAD_VALUE);
        tree.setRegister(0, 6, 100);
        Checks.due("six digits", tree.setAll(0, 999999, 999999), 999987);
    }

    private static void promise11() {
        MeterTree tree = Checks.tree(0, 0);
        tree.setAll(1, 10, 1);
        Checks.due("removeReading", tree.removeReading(1, 12), 22);
        Checks.due("removed", tree.reading(1, 12), Checks.NONE);
        Checks.due("others stay", tree.reading(1, 11), 21);
        Checks.due("removeReading again", tree.removeReading(1, 12), Checks.NONE);
        Checks.due("two undos", tree.undo() - tree.undo(), 1);
        Checks.due("undone", tree.reading(1, 12), 22);
        for (int boundary : WRONG_BOUNDARIES) {
            Checks.due("no boundary", tree.removeReading(1, boundary), Checks.BAD_INDEX);
        }
        Checks.due("no meter", tree.removeReading(2, 0), Checks.BAD_INDEX);
        Checks.due("history", Checks.historyOf(tree), 3);
        tree = Checks.tree(0);
        tree.setReading(0, 0, 0);
        Checks.due("a reading of 0", tree.removeReading(0, 0), 0);
    }

    private static void promise12() {
        MeterTree tree = Checks.tree(0, 0);
        tree.setReading(1, 4, 44);
        Checks.due("reading", tree.reading(1, 4), 44);
        Checks.due("none", tree.reading(1, 5), Checks.NONE);
        Checks.due("none", tree.reading(0, 4), Checks.NONE);
        for (int boundary : WRONG_BOUNDARIES) {
            Checks.due("no boundary", tree.reading(1, boundary), Checks.BAD_INDEX);
        }
        Checks.due("no meter", tree.reading(2, 0), Checks.BAD_INDEX);
        Checks.due("no meter", tree.reading(-1, 0), Checks.BAD_INDEX);
        Checks.due("no meters", new MeterTree().reading(0, 0), Checks.BAD_INDEX);
    }

    private static void promise13() {
        MeterTree tree = Checks.tree(0);
        Checks.readings(tree, 0, 99990, 10, 10, 9, -1, 5);
        tree.setMeter(0, 10, 1);
        int[] due = {20, 0, 99999, Checks.NONE, Checks.NONE, Checks.NONE};
        for (int interval = 0; interval < due.length; interval++) {
            Checks.due("raw(0, " + interval + ")", tree.raw(0, interval), due[interval]);
        }
        tree.setReading(0, 11, 1);
        Checks.due("raw(0, 11) with one reading", tree.raw(0, 11), Checks.NONE);
        tree.setReading(0, 12, 8);
        Checks.due("raw(0, 11)", tree.raw(0, 11), 7);
        for (int digits = 3; digits <= 6; digits++) {
            tree.setRegister(0, digits, 5);
            tree.setReading(0, 0, 999);
            tree.setReading(0, 1, 0);
            Checks.due("rollover", tree.raw(0, 0), new int[] {1, 9001, 99001, 999001}[digits - 3]);
        }
        for (int interval : WRONG_INTERVALS) {
            Checks.due("no interval", tree.raw(0, interval), Checks.BAD_INDEX);
        }
        Checks.due("no meter", tree.raw(1, 0), Checks.BAD_INDEX);
    }

    private static void promise14() {
        MeterTree tree = Checks.tree(0);
        tree.setRegister(0, 5, 100);
        Checks.readings(tree, 0, 0, 100, 201, -1, 300, 300);
        int[] due = {0, 2, 1, 1, 0, 1};
        for (int interval = 0; interval < due.length; interval++) {
            Checks.due("status(0, " + interval + ")", tree.status(0, interval), due[interval]);
        }
        for (int interval : WRONG_INTERVALS) {
            Checks.due("no interval", tree.status(0, interval), Checks.BAD_INDEX);
        }
        Checks.due("no meter", tree.status(1, 0), Checks.BAD_INDEX);
        Checks.due("no meter", tree.status(-1, 0), Checks.BAD_INDEX);
        tree.setMeter(0, 100, 1);
        Checks.due("the multiplier is not in it", tree.status(0, 0), 0);
    }

    /** The status of the middle one of three intervals with these raw values; limit 1000, spike factor 5. */
    private static int middle(int at, int before, int middle, int behind) {
        MeterTree tree = Checks.tree(0);
        tree.setRegister(0, 5, 1000);
        int value = 0;
        int[] raws = {before, middle, behind};
        tree.setReading(0, at - 1, value);
        for (int step = 0; step < 3; step++) {
            if (raws[step] >= 0) {
                value += raws[step];
                tree.setReading(0, at + step, value);
            }
        }
        return tree.status(0, at);
    }

    private static void promise14Spikes() {
        Checks.due("five times is no spike", middle(5, 4, 20, 3), 0);
        Checks.due("more than five times", middle(5, 4, 21, 3), 3);
        Checks.due("the greater one counts, behind", middle(5, 3, 21, 5), 0);
        Checks.due("the greater one counts, before", middle(5, 5, 21, 3), 0);
        Checks.due("nine is no spike", middle(5, 0, 9, 0), 0);
        Checks.due("ten is", middle(5, 0, 10, 0), 3);
        Checks.due("ten at 1", middle(1, 1, 10, 1), 3);
        Checks.due("ten at 10", middle(10, 1, 10, 1), 3);
        Checks.due("the limit is no spike factor", middle(5, 1, 1000, 1), 3);
        Checks.due("too much comes first", middle(5, 1, 1001, 1), 2);
        Checks.due("neighbour too much", middle(5, 1001, 800, 1), 0);
        Checks.due("other neighbour too much", middle(5, 1, 800, 1001), 0);
        Checks.due("neighbour behind missing", middle(5, 1, 800, -1), 0);
        MeterTree tree = Checks.tree(0);
        Checks.readings(tree, 0, -1, -1, -1, 100, 900, 901, 902);
        Checks.due("neighbour before missing", tree.status(0, 3), 0);
        tree.setReading(0, 2, 99);
        Checks.due("neighbour before there", tree.status(0, 3), 3);
        tree.setAll(0, 0, 0);
        Checks.readings(tree, 0, 0, 500, 501, 502, 503, 504, 505, 506, 507, 508, 509, 510, 999);
        Checks.due("no spike at the start", tree.status(0, 0), 0);
        Checks.due("no spike at the end", tree.status(0, 11), 0);
        Checks.readings(tree, 0, -1, 500, 501, 502, 503, 583, 584, 592);
        Checks.due("a missing one before", tree.status(0, 0), 1);
        Checks.due("spike", tree.status(0, 4), 3);
        tree.setRules(20, 50);
        Checks.due("factor 20: 80 of 20", tree.status(0, 4), 3);
        tree.setReading(0, 3, 499);
        tree.setRules(20, 50);
        Checks.due("before rolled over", tree.status(0, 3), 0);
        tree.setReading(0, 3, 501);
        tree.setReading(0, 4, 505);
        Checks.due("78 of 4", tree.status(0, 4), 0);
        tree.setRules(19, 50);
        Checks.due("78 of 4, factor 19", tree.status(0, 4), 3);
        tree.setRules(2, 50);
        Checks.due("8 is too small", tree.status(0, 6), 0);
    }
}
