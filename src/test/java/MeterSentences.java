/** The sentences of 'Meters, readings' and of the promises 1 to 8. */
final class MeterSentences {
    private MeterSentences() {
    }

    static void all() {
        tree();
        settings();
        dayOfReadings();
        promise1();
        promise2();
        promise2Errors();
        promise3();
        promise3Errors();
        promise4();
        promise4Errors();
        promise5();
        promise6();
        promise7();
        promise7Errors();
        promise8();
    }

    private static void tree() {
        Sentence.section("Meters, readings");
        Sentence.says("There are at most 10 meters, numbered from 0.");
        MeterTree tree = new MeterTree();
        for (int meter = 0; meter < 10; meter++) {
            Sentence.due("addMeter(0)", tree.addMeter(0), meter);
        }
        Sentence.due("an eleventh addMeter(0)", tree.addMeter(0), Checks.FULL);
        Sentence.due("meters()", tree.meters(), 10);
        Sentence.due("meter(9, 1)", tree.meter(9, 1), 1);
        Sentence.due("meter(10, 1)", tree.meter(10, 1), Checks.BAD_INDEX);

        Sentence.says("Meter 0 is the main meter, the first one that is added;");
        tree = new MeterTree();
        Sentence.due("addMeter(7)", tree.addMeter(7), 0);
        Sentence.due("meter(0, 0)", tree.meter(0, 0), Checks.NONE);
        Sentence.due("meter(0, 6)", tree.meter(0, 6), 0);
        tree.addMeter(0);
        Sentence.due("meter(0, 0) with a second one", tree.meter(0, 0), Checks.NONE);

        Sentence.says("each other one has a parent, an earlier meter, and is a child of it.");
        tree = Checks.tree(0, 0, 1);
        Sentence.due("meter(1, 0)", tree.meter(1, 0), 0);
        Sentence.due("meter(2, 0)", tree.meter(2, 0), 1);
        Sentence.due("child(0, 0)", tree.child(0, 0), 1);
        Sentence.due("child(1, 0)", tree.child(1, 0), 2);
        Sentence.due("a meter below itself", tree.addMeter(3), Checks.BAD_INDEX);
        Sentence.due("a meter below a later one", tree.addMeter(4), Checks.BAD_INDEX);
        Sentence.due("a meter below the one before", tree.addMeter(2), 3);

        Sentence.says("A meter without children is a leaf.");
        tree = Checks.tree(0);
        Sentence.due("loss(0, 0) of the only meter", tree.loss(0, 0), Checks.NONE);
        tree.addMeter(0);
        Sentence.due("loss(0, 0) with a child", tree.loss(0, 0), 0);
        Sentence.due("loss(1, 0)", tree.loss(1, 0), Checks.NONE);
        tree.addMeter(1);
        Sentence.due("loss(1, 0) with a child", tree.loss(1, 0), 0);
        tree.undo();
        Sentence.due("loss(1, 0) without it again", tree.loss(1, 0), Checks.NONE);
    }

    private static void settings() {
        Sentence.says("A meter has a multiplier, 1 to 100 (1 at first),");
        MeterTree tree = Sentence.pair();
        Sentence.due("meter(1, 1)", tree.meter(1, 1), 1);
        Sentence.due("setMeter(1, 0, 1)", tree.setMeter(1, 0, 1), Checks.BAD_VALUE);
        Sentence.due("setMeter(1, 101, 1)", tree.setMeter(1, 101, 1), Checks.BAD_VALUE);
        Sentence.due("setMeter(1, 100, 1)", tree.setMeter(1, 100, 1), 1);
        Sentence.due("setMeter(1, 1, 1)", tree.setMeter(1, 1, 1), 100);

        Sentence.says("a number of digits, 3 to 6 (5 at first),");
        Sentence.due("meter(1, 2)", tree.meter(1, 2), 5);
        Sentence.due("setRegister(1, 2, 1)", tree.setRegister(1, 2, 1), Checks.BAD_VALUE);
        Sentence.due("setRegister(1, 7, 1)", tree.setRegister(1, 7, 1), Checks.BAD_VALUE);
        Sentence.due("setRegister(1, 3, 1)", tree.setRegister(1, 3, 1), 5);
        Sentence.due("setRegister(1, 6, 1)", tree.setRegister(1, 6, 1), 3);
        Sentence.due("setRegister(1, 4, 1)", tree.setRegister(1, 4, 1), 6);

        Sentence.says("a limit, 1 to 50000 (10000 at first),");
        tree = Sentence.pair();
        Sentence.due("meter(1, 3)", tree.meter(1, 3), 10000);
        Sentence.due("setRegister(1, 5, 0)", tree.setRegister(1, 5, 0), Checks.BAD_VALUE);
        Sentence.due("setRegister(1, 5, 50001)", tree.setRegister(1, 5, 50001), Checks.BAD_VALUE);
        tree.setRegister(1, 5, 50000);
        Sentence.due("meter(1, 3)", tree.meter(1, 3), 50000);
        tree.setRegister(1, 5, 1);
        Sentence.due("meter(1, 3)", tree.meter(1, 3), 1);

        Sentence.says("and a weight, 1 to 100 (1 at first).");
        Sentence.due("meter(1, 4)", tree.meter(1, 4), 1);
        Sentence.due("setMeter(1, 1, 0)", tree.setMeter(1, 1, 0), Checks.BAD_VALUE);
        Sentence.due("setMeter(1, 1, 101)", tree.setMeter(1, 1, 101), Checks.BAD_VALUE);
        tree.setMeter(1, 1, 100);
        Sentence.due("meter(1, 4)", tree.meter(1, 4), 100);
        tree.setMeter(1, 1, 1);
        Sentence.due("meter(1, 4)", tree.meter(1, 4), 1);
    }

    private static void dayOfReadings() {
        Sentence.says("A day has 12 intervals, 0 to 11;");
        MeterTree tree = Checks.tree(0);
        tree.setAll(0, 0, 1);
        Sentence.due("raw(0, -1)", tree.raw(0, -1), Checks.BAD_INDEX);
        Sentence.due("raw(0, 0)", tree.raw(0, 0), 1);
        Sentence.due("raw(0, 11)", tree.raw(0, 11), 1);
        Sentence.due("raw(0, 12)", tree.raw(0, 12), Checks.BAD_INDEX);
        Sentence.due("day(0, 0)", tree.day(0, 0), 12);

        Sentence.says("interval i lies between the boundaries i and i + 1.");
        tree = Sentence.alone(5, 100, 1, 2, 3, 4, 5, 6, 7, 8, 9, 10, 11, 12);
        for (int interval = 0; interval < 12; interval++) {
            Sentence.due("raw(0, " + interval + ")", tree.raw(0, interval), interval + 1);
        }

        Sentence.says("At each boundary, 0 to 12, a meter has a reading, 0 to 10^digits - 1, or none (none at first).");
        tree = Sentence.pair();
        for (int boundary = 0; boundary <= 12; boundary++) {
            Sentence.due("reading(1, " + boundary + ") at first", tree.reading(1, boundary), Checks.NONE);
            Sentence.due("the least reading", tree.setReading(1, boundary, 0), Checks.NONE);
            Sentence.due("the greatest reading", tree.setReading(1, boundary, 99999), 0);
            Sentence.due("a reading too great", tree.setReading(1, boundary, 100000), Checks.BAD_VALUE);
            Sentence.due("a reading too small", tree.setReading(1, boundary, -1), Checks.BAD_VALUE);
            Sentence.due("reading(1, " + boundary + ")", tree.reading(1, boundary), 99999);
            Sentence.due("reading(0, " + boundary + ")", tree.reading(0, boundary), Checks.NONE);
        }
        Sentence.due("boundary -1", tree.setReading(1, -1, 0), Checks.BAD_INDEX);
        Sentence.due("boundary 13", tree.setReading(1, 13, 0), Checks.BAD_INDEX);

        Sentence.says("If the number of digits becomes another one, all readings of the meter are removed.");
        for (int digits = 3; digits <= 6; digits++) {
            tree = Sentence.pair();
            tree.setAll(0, 1, 2);
            tree.setAll(1, 1, 2);
            tree.setRegister(1, digits, 7);
            for (int boundary = 0; boundary <= 12; boundary++) {
                int left = digits == 5 ? 1 + 2 * boundary : Checks.NONE;
                Sentence.due(digits + " digits, reading(1, " + boundary + ")", tree.reading(1, boundary), left);
                Sentence.due(digits + " digits, reading(0, " + boundary + ")", tree.reading(0, boundary), 1 + 2 * boundary);
            }
        }
    }

    private static void promise1() {
        Sentence.section("Promise 1: A new object");
        Sentence.says("Creates a day without meters,");
        MeterTree tree = new MeterTree();
        Sentence.due("meters()", tree.meters(), 0);
        Sentence.due("meter(0, 0)", tree.meter(0, 0), Checks.BAD_INDEX);
        Sentence.due("reading(0, 0)", tree.reading(0, 0), Checks.BAD_INDEX);
        Sentence.due("undo()", tree.undo(), Checks.BAD_STATE);

        Sentence.says("with the settings that are described,");
        Sentence.due("digest()", tree.digest(), mixed(mixed(mixed(mixed(17, 0), 5), 50), 0));
        Sentence.due("setRules(6, 60)", tree.setRules(6, 60), 5);
        tree = Checks.tree(0, 0);
        tree.setAll(0, 0, 100);
        tree.setAll(1, 0, 95);
        Sentence.due("balance with 50 thousandths lost", tree.balance(0, 0), 0);
        tree.setAll(1, 0, 94);
        Sentence.due("balance with 60 thousandths lost", tree.balance(0, 0), 2);

        Sentence.says("without revisions,");
        tree = new MeterTree();
        Sentence.due("revisions()", tree.revisions(), 0);
        tree.addMeter(0);
        Sentence.due("billOf(0, 0)", tree.billOf(0, 0), Checks.BAD_INDEX);
        Sentence.due("clearRevisions()", tree.clearRevisions(), 0);

        Sentence.says("and with an empty text.");
        tree = new MeterTree();
        Sentence.due("textFault()", tree.textFault(), 0);
        Sentence.due("load()", tree.load(), Checks.BAD_STATE);
        Sentence.due("clearText()", tree.clearText(), 0);
        Sentence.due("type(48)", tree.type(48), 1);
    }

    private static long mixed(long hash, long value) {
        return 31 * hash + value;
    }

    private static void promise2() {
        Sentence.section("Promise 2: addMeter");
        Sentence.says("Adds a meter.");
        MeterTree tree = Sentence.pair();
        tree.addMeter(1);
        Sentence.due("meters()", tree.meters(), 3);
        int[] settings = {1, 1, 5, 10000, 1, 0, 2};
        for (int what = 0; what <= 6; what++) {
            Sentence.due("meter(2, " + what + ")", tree.meter(2, what), settings[what]);
        }
        // In the place of one with other settings and readings, which was taken back.
        tree.setMeter(2, 9, 8);
        tree.setAll(2, 7, 6);
        tree.setRegister(2, 5, 4);
        for (int call = 0; call < 4; call++) {
            tree.undo();
        }
        tree.addMeter(0);
        settings = new int[] {0, 1, 5, 10000, 1, 0, 1};
        for (int what = 0; what <= 6; what++) {
            Sentence.due("meter(2, " + what + ") anew", tree.meter(2, what), settings[what]);
        }
        for (int boundary = 0; boundary <= 12; boundary++) {
            Sentence.due("reading(2, " + boundary + ") anew", tree.reading(2, boundary), Checks.NONE);
        }

        Sentence.says("Recorded.");
        Sentence.recorded("the first addMeter(0)", MeterTree::new, one -> one.addMeter(0));
        Sentence.recorded("addMeter(1)", Sentence::pair, one -> one.addMeter(1));
        Sentence.recorded("addMeter(1)", Sentence::family, one -> one.addMeter(1));

        Sentence.says("`parent`: its parent;");
        tree = Checks.tree(0);
        for (int parent = 0; parent < 9; parent++) {
            tree.addMeter(parent);
            Sentence.due("meter(" + (parent + 1) + ", 0)", tree.meter(parent + 1, 0), parent);
        }

        Sentence.says("any int for the first meter");
        for (int parent : Sentence.outside(0, 0)) {
            tree = new MeterTree();
            Sentence.due("addMeter(" + parent + ")", tree.addMeter(parent), 0);
            Sentence.due("meter(0, 0)", tree.meter(0, 0), Checks.NONE);
            tree.undo();
            Sentence.due("addMeter(" + parent + ") after undo()", tree.addMeter(parent), 0);
        }

        Sentence.says("Returns the number of the meter;");
        tree = new MeterTree();
        for (int meter = 0; meter < 10; meter++) {
            Sentence.due("addMeter", tree.addMeter(meter / 2), meter);
        }
        tree.undo();
        Sentence.due("addMeter after undo()", tree.addMeter(8), 9);
    }

    private static MeterTree ten() {
        return Checks.tree(0, 0, 1, 2, 3, 4, 5, 6, 7, 8);
    }

    private static void promise2Errors() {
        Sentence.says("BAD_INDEX if there are meters, but not this parent;");
        for (int parent : Sentence.outside(0, 0)) {
            Sentence.refused("addMeter(" + parent + ") with one", () -> Checks.tree(0), tree -> tree.addMeter(parent), Checks.BAD_INDEX);
        }
        for (int parent : Sentence.outside(0, 3)) {
            Sentence.refused("addMeter(" + parent + ") with four", Sentence::family, tree -> tree.addMeter(parent), Checks.BAD_INDEX);
        }
        for (int parent : Sentence.outside(0, 9)) {
            Sentence.refused("addMeter(" + parent + ") with ten", MeterSentences::ten, tree -> tree.addMeter(parent), Checks.BAD_INDEX);
        }

        Sentence.says("FULL if there are 10 meters.");
        for (int parent = 0; parent < 10; parent++) {
            int below = parent;
            Sentence.refused("addMeter(" + parent + ") with ten", MeterSentences::ten, tree -> tree.addMeter(below), Checks.FULL);
        }
        MeterTree tree = ten();
        tree.undo();
        Sentence.due("addMeter(0) with nine", tree.addMeter(0), 9);
        Sentence.due("addMeter(0) with ten again", tree.addMeter(0), Checks.FULL);
    }

    private static void promise3() {
        Sentence.section("Promise 3: setMeter");
        Sentence.says("Sets the multiplier and the weight of a meter.");
        MeterTree tree = Sentence.pair();
        tree.setAll(1, 3, 4);
        tree.setMeter(1, 7, 9);
        int[] settings = {0, 7, 5, 10000, 9};
        int[] others = {Checks.NONE, 1, 5, 10000, 1};
        for (int what = 0; what < 5; what++) {
            Sentence.due("meter(1, " + what + ")", tree.meter(1, what), settings[what]);
            Sentence.due("meter(0, " + what + ")", tree.meter(0, what), others[what]);
        }
        Sentence.due("reading(1, 12)", tree.reading(1, 12), 51);

        Sentence.says("Recorded.");
        Sentence.recorded("setMeter(1, 7, 9)", Sentence::pair, one -> one.setMeter(1, 7, 9));
        Sentence.recorded("setMeter(1, 1, 1), which changes nothing", Sentence::pair, one -> one.setMeter(1, 1, 1));
        Sentence.recorded("setMeter(3, 100, 100)", Sentence::family, one -> one.setMeter(3, 100, 100));

        Sentence.says("`multiplier`: 1 to 100");
        for (int multiplier = 1; multiplier <= 100; multiplier++) {
            tree.setMeter(1, multiplier, 1);
            Sentence.due("meter(1, 1)", tree.meter(1, 1), multiplier);
        }

        Sentence.says("`weight`: 1 to 100");
        for (int weight = 1; weight <= 100; weight++) {
            tree.setMeter(1, 1, weight);
            Sentence.due("meter(1, 4)", tree.meter(1, 4), weight);
        }

        Sentence.says("Returns the previous multiplier;");
        tree = Sentence.pair();
        Sentence.due("setMeter(1, 7, 9)", tree.setMeter(1, 7, 9), 1);
        Sentence.due("setMeter(1, 100, 3)", tree.setMeter(1, 100, 3), 7);
        Sentence.due("setMeter(1, 100, 3)", tree.setMeter(1, 100, 3), 100);
        tree.undo();
        tree.undo();
        Sentence.due("setMeter(1, 2, 2) after two undo()", tree.setMeter(1, 2, 2), 7);
        Sentence.due("setMeter(0, 2, 2)", tree.setMeter(0, 2, 2), 1);
    }

    private static void promise3Errors() {
        Sentence.says("BAD_INDEX if there is no such meter;", "`meter`: number of the meter");
        Sentence.refused("setMeter(0, 1, 1)", MeterTree::new, tree -> tree.setMeter(0, 1, 1), Checks.BAD_INDEX);
        for (int meter : Sentence.outside(0, 3)) {
            Sentence.refused("setMeter(" + meter + ", 5, 5)", Sentence::family, tree -> tree.setMeter(meter, 5, 5), Checks.BAD_INDEX);
            Sentence.refused("setMeter(" + meter + ", 0, 101)", Sentence::family, tree -> tree.setMeter(meter, 0, 101), Checks.BAD_INDEX);
        }

        Sentence.says("BAD_VALUE if another argument is out of range.");
        for (int value : Sentence.outside(1, 100)) {
            Sentence.refused("setMeter(3, " + value + ", 5)", Sentence::family, tree -> tree.setMeter(3, value, 5), Checks.BAD_VALUE);
            Sentence.refused("setMeter(3, 5, " + value + ")", Sentence::family, tree -> tree.setMeter(3, 5, value), Checks.BAD_VALUE);
            Sentence.refused("setMeter(0, " + value + ", " + value + ")", Sentence::pair, tree -> tree.setMeter(0, value, value), Checks.BAD_VALUE);
        }
    }

    private static void promise4() {
        Sentence.section("Promise 4: setRegister");
        Sentence.says("Sets the number of digits and the limit of a meter;");
        MeterTree tree = Sentence.pair();
        tree.setRegister(1, 3, 77);
        int[] settings = {0, 1, 3, 77, 1};
        int[] others = {Checks.NONE, 1, 5, 10000, 1};
        for (int what = 0; what < 5; what++) {
            Sentence.due("meter(1, " + what + ")", tree.meter(1, what), settings[what]);
            Sentence.due("meter(0, " + what + ")", tree.meter(0, what), others[what]);
        }
        tree.setRegister(1, 3, 78);
        Sentence.due("meter(1, 3)", tree.meter(1, 3), 78);

        Sentence.says("its readings are removed, if the number of digits is another one than before.");
        for (int from = 3; from <= 6; from++) {
            for (int to = 3; to <= 6; to++) {
                tree = Sentence.pair();
                tree.setRegister(1, from, 10);
                tree.setAll(1, 900, 1);
                tree.setReading(0, 4, 5);
                tree.setRegister(1, to, 20);
                for (int boundary = 0; boundary <= 12; boundary += 4) {
                    int left = from == to ? 900 + boundary : Checks.NONE;
                    Sentence.due(from + " to " + to + " digits, reading(1, " + boundary + ")", tree.reading(1, boundary), left);
                }
                Sentence.due("reading(0, 4)", tree.reading(0, 4), 5);
            }
        }

        Sentence.says("Recorded.");
        Sentence.recorded("setRegister(1, 6, 9)", Sentence::pair, one -> one.setRegister(1, 6, 9));
        Sentence.recorded("setRegister(1, 5, 10000), which changes nothing", Sentence::pair, one -> one.setRegister(1, 5, 10000));
        Sentence.recorded("setRegister(3, 6, 9), which removes readings", Sentence::family, one -> one.setRegister(3, 6, 9));

        Sentence.says("`digits`: 3 to 6");
        tree = Sentence.pair();
        for (int digits = 3; digits <= 6; digits++) {
            tree.setRegister(1, digits, 5);
            Sentence.due("meter(1, 2)", tree.meter(1, 2), digits);
        }

        Sentence.says("`limit`: 1 to 50000");
        for (int limit : new int[] {1, 2, 100, 9999, 49999, 50000}) {
            tree.setRegister(1, 6, limit);
            Sentence.due("meter(1, 3)", tree.meter(1, 3), limit);
        }

        Sentence.says("Returns the previous number of digits;");
        tree = Sentence.pair();
        Sentence.due("setRegister(1, 6, 7)", tree.setRegister(1, 6, 7), 5);
        Sentence.due("setRegister(1, 6, 8)", tree.setRegister(1, 6, 8), 6);
        Sentence.due("setRegister(1, 3, 8)", tree.setRegister(1, 3, 8), 6);
        Sentence.due("setRegister(1, 4, 8)", tree.setRegister(1, 4, 8), 3);
        Sentence.due("setRegister(0, 4, 8)", tree.setRegister(0, 4, 8), 5);
    }

    private static void promise4Errors() {
        Sentence.says("BAD_INDEX if there is no such meter;", "`meter`: number of the meter");
        Sentence.refused("setRegister(0, 5, 5)", MeterTree::new, tree -> tree.setRegister(0, 5, 5), Checks.BAD_INDEX);
        for (int meter : Sentence.outside(0, 3)) {
            Sentence.refused("setRegister(" + meter + ", 6, 5)", Sentence::family, tree -> tree.setRegister(meter, 6, 5), Checks.BAD_INDEX);
            Sentence.refused("setRegister(" + meter + ", 2, 0)", Sentence::family, tree -> tree.setRegister(meter, 2, 0), Checks.BAD_INDEX);
        }

        Sentence.says("BAD_VALUE if another argument is out of range.");
        for (int value : Sentence.outside(3, 6)) {
            Sentence.refused("setRegister(3, " + value + ", 5)", Sentence::family, tree -> tree.setRegister(3, value, 5), Checks.BAD_VALUE);
        }
        for (int value : Sentence.outside(1, 50000)) {
            Sentence.refused("setRegister(3, 6, " + value + ")", Sentence::family, tree -> tree.setRegister(3, 6, value), Checks.BAD_VALUE);
            Sentence.refused("setRegister(0, 5, " + value + ")", Sentence::pair, tree -> tree.setRegister(0, 5, value), Checks.BAD_VALUE);
        }
    }

    private static void promise5() {
        Sentence.section("Promise 5: setRules");
        Sentence.says("Sets the spike factor and the tolerance.");
        MeterTree tree = Checks.tree(0, 0);
        Sentence.raws(tree, 0, 10, 31, 10);
        Sentence.raws(tree, 1, 10, 20, 9);
        tree.setRules(3, 100);
        Sentence.due("status(0, 1)", tree.status(0, 1), 3);
        Sentence.due("balance(0, 2)", tree.balance(0, 2), 0);
        tree.setRules(4, 99);
        Sentence.due("status(0, 1)", tree.status(0, 1), 0);
        Sentence.due("balance(0, 2)", tree.balance(0, 2), 2);

        Sentence.says("Recorded.");
        Sentence.recorded("setRules(6, 60)", MeterTree::new, one -> one.setRules(6, 60));
        Sentence.recorded("setRules(5, 50), which changes nothing", Sentence::pair, one -> one.setRules(5, 50));
        Sentence.recorded("setRules(2, 0)", Sentence::family, one -> one.setRules(2, 0));

        Sentence.says("`spike`: 2 to 20");
        tree = new MeterTree();
        tree.setRules(2, 0);
        for (int spike = 2; spike <= 20; spike++) {
            Sentence.due("setRules(" + spike + ", 0)", tree.setRules(spike, 0), Math.max(2, spike - 1));
        }

        Sentence.says("`tolerance`: 0 to 1000");
        for (int tolerance : new int[] {0, 1, 999, 1000}) {
            tree = new MeterTree();
            Sentence.due("setRules(5, " + tolerance + ")", tree.setRules(5, tolerance), 5);
            Sentence.due("digest()", tree.digest(), mixed(mixed(mixed(mixed(17, 0), 5), tolerance), 0));
        }

        Sentence.says("Returns the previous spike factor;");
        tree = new MeterTree();
        Sentence.due("setRules(2, 9)", tree.setRules(2, 9), 5);
        Sentence.due("setRules(20, 8)", tree.setRules(20, 8), 2);
        Sentence.due("setRules(20, 8)", tree.setRules(20, 8), 20);
        tree.undo();
        tree.undo();
        Sentence.due("setRules(3, 7) after two undo()", tree.setRules(3, 7), 2);

        Sentence.says("BAD_VALUE if an argument is out of range.");
        for (int value : Sentence.outside(2, 20)) {
            Sentence.refused("setRules(" + value + ", 0)", Sentence::family, one -> one.setRules(value, 0), Checks.BAD_VALUE);
        }
        for (int value : Sentence.outside(0, 1000)) {
            Sentence.refused("setRules(2, " + value + ")", Sentence::family, one -> one.setRules(2, value), Checks.BAD_VALUE);
            Sentence.refused("setRules(2, " + value + ")", MeterTree::new, one -> one.setRules(2, value), Checks.BAD_VALUE);
        }
    }

    private static void promise6() {
        Sentence.section("Promise 6: meters");
        Sentence.says("Returns the number of meters.", "Returns the number.");
        MeterTree tree = new MeterTree();
        for (int meters = 0; meters < 10; meters++) {
            Sentence.due("meters()", tree.meters(), meters);
            tree.addMeter(meters / 3);
        }
        Sentence.due("meters()", tree.meters(), 10);
        tree.addMeter(0);
        Sentence.due("meters() after an addMeter that was refused", tree.meters(), 10);
        for (int meters = 9; meters >= 5; meters--) {
            tree.undo();
            Sentence.due("meters() after undo()", tree.meters(), meters);
        }
        Sentence.onlyAsks("meters()", Sentence::family, MeterTree::meters);
    }

    private static void promise7() {
        Sentence.section("Promise 7: meter");
        Sentence.says("Returns a property of a meter.", "Returns the property;");
        MeterTree tree = Checks.tree(4, 0, 0, 1, 3, 1, 4);
        tree.setMeter(4, 12, 34);
        tree.setRegister(4, 3, 567);
        int[] four = {3, 12, 3, 567, 34, 1, 3};
        int[] one = {0, 1, 5, 10000, 1, 2, 1};
        for (int what = 0; what <= 6; what++) {
            Sentence.due("meter(4, " + what + ")", tree.meter(4, what), four[what]);
            Sentence.due("meter(1, " + what + ")", tree.meter(1, what), one[what]);
            int asked = what;
            Sentence.onlyAsks("meter(1, " + what + ")", Sentence::family, each -> each.meter(1, asked));
        }

        Sentence.says("`what`: 0 its parent (NONE for meter 0),");
        int[] parents = {Checks.NONE, 0, 0, 1, 3, 1, 4};
        for (int meter = 0; meter < 7; meter++) {
            Sentence.due("meter(" + meter + ", 0)", tree.meter(meter, 0), parents[meter]);
        }

        Sentence.says("1 its multiplier, 2 its digits, 3 its limit, 4 its weight,");
        for (int what = 1; what <= 4; what++) {
            Sentence.due("meter(4, " + what + ")", tree.meter(4, what), four[what]);
            Sentence.due("meter(5, " + what + ")", tree.meter(5, what), one[what]);
        }

        Sentence.says("5 how many children it has,");
        int[] children = {2, 2, 0, 1, 1, 0, 0};
        for (int meter = 0; meter < 7; meter++) {
            Sentence.due("meter(" + meter + ", 5)", tree.meter(meter, 5), children[meter]);
        }
        tree.undo();
        tree.undo();
        tree.undo();
        Sentence.due("meter(4, 5) without meter 6", tree.meter(4, 5), 0);
        MeterTree star = Checks.tree(0, 0, 0, 0, 0, 0, 0, 0, 0, 0);
        Sentence.due("meter(0, 5) of nine", star.meter(0, 5), 9);
        Sentence.due("meter(9, 5)", star.meter(9, 5), 0);

        Sentence.says("6 how many meters are above it");
        int[] above = {0, 1, 1, 2, 3, 2};
        for (int meter = 0; meter < 6; meter++) {
            Sentence.due("meter(" + meter + ", 6)", tree.meter(meter, 6), above[meter]);
        }
        Sentence.due("meter(9, 6) of a line", ten().meter(9, 6), 9);
        Sentence.due("meter(9, 6) of a star", star.meter(9, 6), 1);
    }

    private static void promise7Errors() {
        Sentence.says("BAD_INDEX if there is no such meter;", "`meter`: number of the meter");
        Sentence.refused("meter(0, 0)", MeterTree::new, tree -> tree.meter(0, 0), Checks.BAD_INDEX);
        for (int meter : Sentence.outside(0, 3)) {
            Sentence.refused("meter(" + meter + ", 0)", Sentence::family, tree -> tree.meter(meter, 0), Checks.BAD_INDEX);
            Sentence.refused("meter(" + meter + ", 7)", Sentence::family, tree -> tree.meter(meter, 7), Checks.BAD_INDEX);
        }

        Sentence.says("BAD_VALUE if what is out of range.");
        for (int what : Sentence.outside(0, 6)) {
            Sentence.refused("meter(0, " + what + ")", Sentence::family, tree -> tree.meter(0, what), Checks.BAD_VALUE);
            Sentence.refused("meter(3, " + what + ")", Sentence::family, tree -> tree.meter(3, what), Checks.BAD_VALUE);
        }
    }

    private static void promise8() {
        Sentence.section("Promise 8: child");
        Sentence.says("Returns a child of a meter.", "Returns the number of the child;");
        MeterTree tree = Checks.tree(0, 0, 1, 0, 1, 2, 0);
        Sentence.due("child(1, 0)", tree.child(1, 0), 2);
        Sentence.due("child(1, 1)", tree.child(1, 1), 4);
        Sentence.due("child(2, 0)", tree.child(2, 0), 5);
        Sentence.onlyAsks("child(0, 1)", Sentence::family, each -> each.child(0, 1));

        Sentence.says("`index`: its index, from 0, by ascending numbers");
        int[] children = {1, 3, 6};
        for (int index = 0; index < 3; index++) {
            Sentence.due("child(0, " + index + ")", tree.child(0, index), children[index]);
        }
        MeterTree star = Checks.tree(0, 0, 0, 0, 0, 0, 0, 0, 0, 0);
        for (int index = 0; index < 9; index++) {
            Sentence.due("child(0, " + index + ") of nine", star.child(0, index), index + 1);
        }

        Sentence.says("BAD_INDEX if there is no such meter or child.", "`meter`: number of the meter");
        Sentence.refused("child(0, 0)", MeterTree::new, each -> each.child(0, 0), Checks.BAD_INDEX);
        for (int meter : Sentence.outside(0, 3)) {
            Sentence.refused("child(" + meter + ", 0)", Sentence::family, each -> each.child(meter, 0), Checks.BAD_INDEX);
        }
        for (int index : Sentence.outside(0, 1)) {
            Sentence.refused("child(0, " + index + ")", Sentence::family, each -> each.child(0, index), Checks.BAD_INDEX);
        }
        Sentence.refused("child(1, 1)", Sentence::family, each -> each.child(1, 1), Checks.BAD_INDEX);
        Sentence.refused("child(2, 0) of a leaf", Sentence::family, each -> each.child(2, 0), Checks.BAD_INDEX);
        Sentence.due("child(0, 9) of nine", star.child(0, 9), Checks.BAD_INDEX);
        star.undo();
        Sentence.due("child(0, 8) that was undone", star.child(0, 8), Checks.BAD_INDEX);
    }
}
