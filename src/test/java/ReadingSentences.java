/** The sentences of 'Validation' and of the promises 9 to 14. */
final class ReadingSentences {
    private static final int[] SPANS = {1000, 10000, 100000, 1000000};

    private ReadingSentences() {
    }

    static void all() {
        rawValues();
        statuses();
        spikes();
        promise9();
        promise9Errors();
        promise10();
        promise10Errors();
        promise11();
        promise12();
        promise13();
        promise14();
    }

    private static MeterTree ofDigits(int digits) {
        MeterTree tree = Sentence.pair();
        tree.setRegister(1, digits, 50000);
        return tree;
    }

    private static void rawValues() {
        Sentence.section("Validation");
        Sentence.says("For two boundaries a and b of a meter, a less than b, both with readings, ADVANCE(a, b) is (reading at b - reading at a) modulo 10^digits.");
        for (int digits = 3; digits <= 6; digits++) {
            int span = SPANS[digits - 3];
            MeterTree tree = ofDigits(digits);
            Checks.readings(tree, 1, span - 1, 0, 0, span - 1, span - 2, span - 2, 7, 500, 6);
            int[] raws = {1, 0, span - 1, span - 1, 0, 9, 493, span - 494};
            for (int interval = 0; interval < raws.length; interval++) {
                Sentence.due(digits + " digits, raw(1, " + interval + ")", tree.raw(1, interval), raws[interval]);
            }
            // The advance over four boundaries, which rolls over too.
            tree = ofDigits(digits);
            tree.setReading(1, 0, span - 20);
            tree.setReading(1, 4, 20);
            tree.setReading(1, 5, 21);
            Sentence.due(digits + " digits, four parts of ADVANCE(0, 4)", tree.energy(1, 3), 10);
        }

        Sentence.says("The raw value of interval i is ADVANCE(i, i + 1), if both readings exist.");
        for (int interval = 0; interval < 12; interval++) {
            MeterTree tree = Checks.tree(0);
            Sentence.due("no reading", tree.raw(0, interval), Checks.NONE);
            tree.setReading(0, interval, 5);
            Sentence.due("only the first reading", tree.raw(0, interval), Checks.NONE);
            tree.setReading(0, interval + 1, 7);
            Sentence.due("both readings", tree.raw(0, interval), 2);
            tree.removeReading(0, interval);
            Sentence.due("only the second reading", tree.raw(0, interval), Checks.NONE);
        }
    }

    private static void statuses() {
        Sentence.says("The status of an interval is the first one of the following that applies:");
        MeterTree tree = Sentence.alone(5, 100, 1, 101, 1);
        Sentence.due("too much as well as a spike", tree.status(0, 1), 2);
        tree.setRegister(0, 5, 101);
        Sentence.due("a spike within the limit", tree.status(0, 1), 3);
        tree.removeReading(0, 2);
        Sentence.due("missing", tree.status(0, 1), 1);

        Sentence.says("1 (missing): it has no raw value;");
        for (int interval = 0; interval < 12; interval++) {
            tree = Checks.tree(0);
            Sentence.due("no readings", tree.status(0, interval), 1);
            tree.setAll(0, 3, 2);
            Sentence.due("all readings", tree.status(0, interval), 0);
            tree.removeReading(0, interval);
            Sentence.due("no first reading", tree.status(0, interval), 1);
            tree.setAll(0, 3, 2);
            tree.removeReading(0, interval + 1);
            Sentence.due("no second reading", tree.status(0, interval), 1);
        }

        Sentence.says("2 (too much): its raw value is greater than the limit of the meter;");
        for (int limit : new int[] {1, 2, 99, 10000, 50000}) {
            for (int interval = 0; interval < 12; interval += 11) {
                tree = Checks.tree(0);
                tree.setRegister(0, 6, limit);
                tree.setMeter(0, 100, 1);
                tree.setReading(0, interval, 999999);
                tree.setReading(0, interval + 1, limit - 1);
                Sentence.due("raw value at the limit " + limit, tree.status(0, interval), 0);
                tree.setReading(0, interval + 1, limit);
                Sentence.due("raw value above the limit " + limit, tree.status(0, interval), 2);
            }
        }
    }

    /** The status of interval 'at', which has these neighbours; -1 stands for a missing reading at the far side. */
    private static int statusOf(int at, int spike, int before, int middle, int behind) {
        MeterTree tree = Checks.tree(0);
        tree.setRegister(0, 5, 1000);
        tree.setRules(spike, 50);
        tree.setReading(0, at, 5000);
        tree.setReading(0, at + 1, 5000 + middle);
        if (before >= 0) {
            tree.setReading(0, at - 1, 5000 - before);
        }
        if (behind >= 0) {
            tree.setReading(0, at + 2, 5000 + middle + behind);
        }
        return tree.status(0, at);
    }

    private static void spikes() {
        Sentence.says("3 (spike): the intervals i - 1 and i + 1 both exist,");
        MeterTree tree = Sentence.alone(5, 1000, 900, 1, 1, 1, 1, 1, 1, 1, 1, 1, 1, 900);
        Sentence.due("status(0, 0)", tree.status(0, 0), 0);
        Sentence.due("status(0, 11)", tree.status(0, 11), 0);
        for (int at = 1; at <= 10; at++) {
            Sentence.due("status(0, " + at + ")", statusOf(at, 5, 1, 900, 1), 3);
        }

        Sentence.says("have raw values");
        Sentence.due("no raw value before", statusOf(5, 5, -1, 900, 1), 0);
        Sentence.due("no raw value behind", statusOf(5, 5, 1, 900, -1), 0);
        Sentence.due("none on both sides", statusOf(5, 5, -1, 900, -1), 0);

        Sentence.says("that are not greater than the limit,");
        Sentence.due("1001 before, the limit is 1000", statusOf(5, 2, 1001, 900, 1), 0);
        Sentence.due("1001 behind, the limit is 1000", statusOf(5, 2, 1, 900, 1001), 0);

        Sentence.says("and the raw value of i is at least 10");
        Sentence.due("9 between 0 and 0", statusOf(5, 5, 0, 9, 0), 0);
        Sentence.due("10 between 0 and 0", statusOf(5, 5, 0, 10, 0), 3);
        Sentence.due("9 between 1 and 1", statusOf(5, 2, 1, 9, 1), 0);
        Sentence.due("10 between 1 and 1", statusOf(5, 2, 1, 10, 1), 3);

        Sentence.says("and greater than the spike factor");
        Sentence.due("five times", statusOf(5, 5, 4, 20, 4), 0);
        Sentence.due("more than five times", statusOf(5, 5, 4, 21, 4), 3);
        Sentence.due("five times 200", statusOf(5, 5, 200, 1000, 200), 0);
        Sentence.due("more than five times 199", statusOf(5, 5, 199, 996, 199), 3);

        Sentence.says("(2 to 20; 5 at first)");
        Sentence.due("twice", statusOf(5, 2, 5, 10, 5), 0);
        Sentence.due("more than twice", statusOf(5, 2, 5, 11, 5), 3);
        Sentence.due("twenty times", statusOf(5, 20, 5, 100, 5), 0);
        Sentence.due("more than twenty times", statusOf(5, 20, 5, 101, 5), 3);
        Sentence.due("at first, five times", Sentence.alone(5, 1000, 4, 20, 4).status(0, 1), 0);
        Sentence.due("at first, more than five times", Sentence.alone(5, 1000, 4, 21, 4).status(0, 1), 3);

        Sentence.says("times the greater one of theirs;");
        Sentence.due("21 between 4 and 3", statusOf(5, 5, 4, 21, 3), 3);
        Sentence.due("21 between 3 and 4", statusOf(5, 5, 3, 21, 4), 3);
        Sentence.due("21 between 5 and 0", statusOf(5, 5, 5, 21, 0), 0);
        Sentence.due("21 between 0 and 5", statusOf(5, 5, 0, 21, 5), 0);

        Sentence.says("0 (valid).");
        tree = Sentence.alone(5, 1000, 0, 0, 1000, 1000, 7, 9, 0);
        for (int interval = 0; interval < 7; interval++) {
            Sentence.due("status(0, " + interval + ")", tree.status(0, interval), 0);
        }
    }

    private static void promise9() {
        Sentence.section("Promise 9: setReading");
        Sentence.says("Sets a reading.");
        MeterTree tree = Sentence.pair();
        tree.setReading(1, 4, 44);
        for (int boundary = 0; boundary <= 12; boundary++) {
            Sentence.due("reading(1, " + boundary + ")", tree.reading(1, boundary), boundary == 4 ? 44 : Checks.NONE);
            Sentence.due("reading(0, " + boundary + ")", tree.reading(0, boundary), Checks.NONE);
        }

        Sentence.says("Recorded.");
        Sentence.recorded("setReading(1, 4, 44), which answers NONE", Sentence::pair, one -> one.setReading(1, 4, 44));
        Sentence.recorded("setReading(0, 12, 0)", Sentence::family, one -> one.setReading(0, 12, 0));
        Sentence.recorded("setReading(1, 1, 60), which changes nothing", Sentence::family, one -> one.setReading(1, 1, 60));

        Sentence.says("`boundary`: 0 to 12");
        for (int boundary = 0; boundary <= 12; boundary++) {
            tree = Sentence.pair();
            tree.setReading(1, boundary, 3);
            Sentence.due("reading(1, " + boundary + ")", tree.reading(1, boundary), 3);
        }

        Sentence.says("`value`: 0 to 10^digits - 1");
        for (int digits = 3; digits <= 6; digits++) {
            tree = ofDigits(digits);
            tree.setReading(1, 4, SPANS[digits - 3] - 1);
            Sentence.due(digits + " digits, the greatest", tree.reading(1, 4), SPANS[digits - 3] - 1);
            tree.setReading(1, 4, 0);
            Sentence.due(digits + " digits, the least", tree.reading(1, 4), 0);
        }

        Sentence.says("Returns the previous reading;");
        tree = Sentence.pair();
        tree.setAll(1, 0, 1);
        Sentence.due("setReading(1, 0, 9)", tree.setReading(1, 0, 9), 0);
        Sentence.due("setReading(1, 12, 99999)", tree.setReading(1, 12, 99999), 12);
        Sentence.due("setReading(1, 12, 5)", tree.setReading(1, 12, 5), 99999);
        tree.undo();
        Sentence.due("setReading(1, 12, 5) after undo()", tree.setReading(1, 12, 5), 99999);

        Sentence.says("NONE if there was none;");
        Sentence.due("setReading(0, 0, 0)", tree.setReading(0, 0, 0), Checks.NONE);
        Sentence.due("setReading(0, 12, 0)", tree.setReading(0, 12, 0), Checks.NONE);
        tree.removeReading(1, 12);
        Sentence.due("setReading(1, 12, 5) after removeReading(1, 12)", tree.setReading(1, 12, 5), Checks.NONE);
        tree.setRegister(1, 6, 5);
        Sentence.due("setReading(1, 11, 5) after other digits", tree.setReading(1, 11, 5), Checks.NONE);
    }

    private static void promise9Errors() {
        Sentence.says("BAD_INDEX if there is no such meter or boundary;", "`meter`: number of the meter");
        Sentence.refused("setReading(0, 0, 0)", MeterTree::new, tree -> tree.setReading(0, 0, 0), Checks.BAD_INDEX);
        for (int meter : Sentence.outside(0, 3)) {
            Sentence.refused("setReading(" + meter + ", 0, 0)", Sentence::family, tree -> tree.setReading(meter, 0, 0), Checks.BAD_INDEX);
            Sentence.refused("setReading(" + meter + ", 0, -1)", Sentence::family, tree -> tree.setReading(meter, 0, -1), Checks.BAD_INDEX);
        }
        for (int boundary : Sentence.outside(0, 12)) {
            Sentence.refused("setReading(3, " + boundary + ", 0)", Sentence::family, tree -> tree.setReading(3, boundary, 0), Checks.BAD_INDEX);
            Sentence.refused("setReading(3, " + boundary + ", 100000)", Sentence::family, tree -> tree.setReading(3, boundary, 100000), Checks.BAD_INDEX);
        }

        Sentence.says("BAD_VALUE if value is out of range.");
        for (int digits = 3; digits <= 6; digits++) {
            int number = digits;
            for (int value : Sentence.outside(0, SPANS[digits - 3] - 1)) {
                Sentence.refused(digits + " digits, setReading(1, 0, " + value + ")", () -> ofDigits(number), tree -> tree.setReading(1, 0, value), Checks.BAD_VALUE);
            }
        }
        Sentence.refused("setReading(3, 12, 100000)", Sentence::family, tree -> tree.setReading(3, 12, 100000), Checks.BAD_VALUE);
    }

    private static void promise10() {
        Sentence.section("Promise 10: setAll");
        Sentence.says("Sets all readings of a meter: that at boundary 0 is start, and each further one is the one before plus step (modulo 10^digits).");
        for (int digits = 3; digits <= 6; digits++) {
            int span = SPANS[digits - 3];
            int[][] pairs = {{0, 0}, {0, 1}, {span - 1, 1}, {span - 1, span - 1}, {5, span / 2}, {span - 100, 100}, {span - 101, 100}, {0, span - 1}};
            for (int[] pair : pairs) {
                MeterTree tree = ofDigits(digits);
                tree.setAll(1, pair[0], pair[1]);
                for (int boundary = 0; boundary <= 12; boundary++) {
                    long due = (pair[0] + (long) boundary * pair[1]) % span;
                    Sentence.due(digits + " digits, setAll(1, " + pair[0] + ", " + pair[1] + "), reading(1, " + boundary + ")", tree.reading(1, boundary), due);
                }
                Sentence.due("reading(0, 0)", tree.reading(0, 0), Checks.NONE);
            }
        }

        Sentence.says("Recorded.");
        Sentence.recorded("setAll(1, 4, 44)", Sentence::pair, one -> one.setAll(1, 4, 44));
        Sentence.recorded("setAll(2, 1, 1)", Sentence::family, one -> one.setAll(2, 1, 1));
        Sentence.recorded("setAll(1, 0, 60), which changes nothing", Sentence::family, one -> one.setAll(1, 0, 60));

        Sentence.says("`start`: 0 to 10^digits - 1");
        for (int digits = 3; digits <= 6; digits++) {
            int greatest = SPANS[digits - 3] - 1;
            MeterTree tree = ofDigits(digits);
            Sentence.due("the least", tree.setAll(1, 0, 0), 0);
            Sentence.due("the greatest", tree.setAll(1, greatest, 0), greatest);
        }

        Sentence.says("`step`: 0 to 10^digits - 1");
        for (int digits = 3; digits <= 6; digits++) {
            int greatest = SPANS[digits - 3] - 1;
            MeterTree tree = ofDigits(digits);
            Sentence.due("the least", tree.setAll(1, 7, 0), 7);
            Sentence.due("the greatest", tree.setAll(1, 12, greatest), 0);
        }

        Sentence.says("Returns the reading at boundary 12;");
        MeterTree tree = Sentence.pair();
        Sentence.due("setAll(1, 5, 7)", tree.setAll(1, 5, 7), 89);
        Sentence.due("setAll(1, 99990, 100)", tree.setAll(1, 99990, 100), 1190);
        Sentence.due("setAll(1, 99988, 1)", tree.setAll(1, 99988, 1), 0);
        Sentence.due("setAll(1, 99987, 1)", tree.setAll(1, 99987, 1), 99999);
    }

    private static void promise10Errors() {
        Sentence.says("BAD_INDEX if there is no such meter;", "`meter`: number of the meter");
        Sentence.refused("setAll(0, 0, 0)", MeterTree::new, tree -> tree.setAll(0, 0, 0), Checks.BAD_INDEX);
        for (int meter : Sentence.outside(0, 3)) {
            Sentence.refused("setAll(" + meter + ", 1, 1)", Sentence::family, tree -> tree.setAll(meter, 1, 1), Checks.BAD_INDEX);
            Sentence.refused("setAll(" + meter + ", -1, -1)", Sentence::family, tree -> tree.setAll(meter, -1, -1), Checks.BAD_INDEX);
        }

        Sentence.says("BAD_VALUE if start or step is out of range.");
        for (int digits = 3; digits <= 6; digits++) {
            int number = digits;
            for (int value : Sentence.outside(0, SPANS[digits - 3] - 1)) {
                Sentence.refused(digits + " digits, setAll(1, " + value + ", 1)", () -> ofDigits(number), tree -> tree.setAll(1, value, 1), Checks.BAD_VALUE);
                Sentence.refused(digits + " digits, setAll(1, 1, " + value + ")", () -> ofDigits(number), tree -> tree.setAll(1, 1, value), Checks.BAD_VALUE);
            }
        }
        Sentence.refused("setAll(3, 0, 100000)", Sentence::family, tree -> tree.setAll(3, 0, 100000), Checks.BAD_VALUE);
    }

    private static void promise11() {
        Sentence.section("Promise 11: removeReading");
        Sentence.says("Removes a reading.");
        for (int removed = 0; removed <= 12; removed++) {
            MeterTree tree = Sentence.pair();
            tree.setAll(0, 10, 1);
            tree.setAll(1, 10, 1);
            tree.removeReading(1, removed);
            for (int boundary = 0; boundary <= 12; boundary++) {
                Sentence.due("reading(1, " + boundary + ")", tree.reading(1, boundary), boundary == removed ? Checks.NONE : 10 + boundary);
                Sentence.due("reading(0, " + boundary + ")", tree.reading(0, boundary), 10 + boundary);
            }
        }

        Sentence.says("Recorded.");
        Sentence.recorded("removeReading(2, 5)", Sentence::family, one -> one.removeReading(2, 5));
        Sentence.recorded("removeReading(1, 5), which changes nothing", Sentence::pair, one -> one.removeReading(1, 5));

        Sentence.says("Returns the reading;");
        MeterTree tree = Sentence.family();
        Sentence.due("removeReading(0, 0)", tree.removeReading(0, 0), 99990);
        Sentence.due("removeReading(1, 0), a reading of 0", tree.removeReading(1, 0), 0);
        Sentence.due("removeReading(2, 12)", tree.removeReading(2, 12), 860);

        Sentence.says("NONE if there was none;");
        Sentence.due("removeReading(2, 12) again", tree.removeReading(2, 12), Checks.NONE);
        Sentence.due("removeReading(1, 5) of a new meter", Sentence.pair().removeReading(1, 5), Checks.NONE);

        Sentence.says("BAD_INDEX if there is no such meter or boundary.", "`meter`: number of the meter", "`boundary`: 0 to 12");
        Sentence.refused("removeReading(0, 0)", MeterTree::new, one -> one.removeReading(0, 0), Checks.BAD_INDEX);
        for (int meter : Sentence.outside(0, 3)) {
            Sentence.refused("removeReading(" + meter + ", 0)", Sentence::family, one -> one.removeReading(meter, 0), Checks.BAD_INDEX);
        }
        for (int boundary : Sentence.outside(0, 12)) {
            Sentence.refused("removeReading(3, " + boundary + ")", Sentence::family, one -> one.removeReading(3, boundary), Checks.BAD_INDEX);
        }
    }

    private static void promise12() {
        Sentence.section("Promise 12: reading");
        Sentence.says("Returns a reading.", "Returns the reading;", "`boundary`: 0 to 12");
        MeterTree tree = Sentence.pair();
        tree.setAll(1, 99995, 1);
        for (int boundary = 0; boundary <= 12; boundary++) {
            Sentence.due("reading(1, " + boundary + ")", tree.reading(1, boundary), (99995 + boundary) % 100000);
        }
        Sentence.onlyAsks("reading(1, 5)", Sentence::family, one -> one.reading(1, 5));

        Sentence.says("NONE if there is none;");
        Sentence.due("reading(0, 5)", tree.reading(0, 5), Checks.NONE);
        tree.removeReading(1, 5);
        Sentence.due("reading(1, 5)", tree.reading(1, 5), Checks.NONE);
        Sentence.onlyAsks("reading(0, 5)", Sentence::pair, one -> one.reading(0, 5));

        Sentence.says("BAD_INDEX if there is no such meter or boundary.", "`meter`: number of the meter");
        Sentence.refused("reading(0, 0)", MeterTree::new, one -> one.reading(0, 0), Checks.BAD_INDEX);
        for (int meter : Sentence.outside(0, 3)) {
            Sentence.refused("reading(" + meter + ", 0)", Sentence::family, one -> one.reading(meter, 0), Checks.BAD_INDEX);
        }
        for (int boundary : Sentence.outside(0, 12)) {
            Sentence.refused("reading(3, " + boundary + ")", Sentence::family, one -> one.reading(3, boundary), Checks.BAD_INDEX);
            Sentence.refused("reading(1, " + boundary + ") without readings", Sentence::pair, one -> one.reading(1, boundary), Checks.BAD_INDEX);
        }
    }

    private static void promise13() {
        Sentence.section("Promise 13: raw");
        Sentence.says("Returns a raw value.", "Returns the raw value;", "`interval`: 0 to 11");
        MeterTree tree = Sentence.alone(5, 1, 1, 2, 3, 4, 5, 6, 7, 8, 9, 99999, 0, 50);
        tree.setMeter(0, 10, 1);
        int[] raws = {1, 2, 3, 4, 5, 6, 7, 8, 9, 99999, 0, 50};
        for (int interval = 0; interval < 12; interval++) {
            Sentence.due("raw(0, " + interval + "), whatever the limit and the multiplier", tree.raw(0, interval), raws[interval]);
        }
        Sentence.onlyAsks("raw(1, 5)", Sentence::family, one -> one.raw(1, 5));

        Sentence.says("NONE if there is none;");
        tree.removeReading(0, 5);
        Sentence.due("raw(0, 4)", tree.raw(0, 4), Checks.NONE);
        Sentence.due("raw(0, 5)", tree.raw(0, 5), Checks.NONE);
        Sentence.due("raw(0, 6)", tree.raw(0, 6), 7);
        Sentence.due("raw(0, 3)", tree.raw(0, 3), 4);

        Sentence.says("BAD_INDEX if there is no such meter or interval.", "`meter`: number of the meter");
        Sentence.refused("raw(0, 0)", MeterTree::new, one -> one.raw(0, 0), Checks.BAD_INDEX);
        for (int meter : Sentence.outside(0, 3)) {
            Sentence.refused("raw(" + meter + ", 0)", Sentence::family, one -> one.raw(meter, 0), Checks.BAD_INDEX);
        }
        for (int interval : Sentence.outside(0, 11)) {
            Sentence.refused("raw(3, " + interval + ")", Sentence::family, one -> one.raw(3, interval), Checks.BAD_INDEX);
            Sentence.refused("raw(1, " + interval + ") without readings", Sentence::pair, one -> one.raw(1, interval), Checks.BAD_INDEX);
        }
    }

    private static void promise14() {
        Sentence.section("Promise 14: status");
        Sentence.says("Returns the status of an interval.", "Returns 0 to 3;", "`interval`: 0 to 11");
        MeterTree tree = Sentence.alone(5, 100, 7, 100, 1, 50, 1, 101, 3);
        int[] due = {0, 3, 0, 3, 0, 2, 0, 1, 1, 1, 1, 1};
        for (int interval = 0; interval < 12; interval++) {
            Sentence.due("status(0, " + interval + ")", tree.status(0, interval), due[interval]);
        }
        Sentence.onlyAsks("status(1, 5)", Sentence::family, one -> one.status(1, 5));

        Sentence.says("BAD_INDEX if there is no such meter or interval.", "`meter`: number of the meter");
        Sentence.refused("status(0, 0)", MeterTree::new, one -> one.status(0, 0), Checks.BAD_INDEX);
        for (int meter : Sentence.outside(0, 3)) {
            Sentence.refused("status(" + meter + ", 0)", Sentence::family, one -> one.status(meter, 0), Checks.BAD_INDEX);
        }
        for (int interval : Sentence.outside(0, 11)) {
            Sentence.refused("status(3, " + interval + ")", Sentence::family, one -> one.status(3, interval), Checks.BAD_INDEX);
        }
    }
}
