/** The sentences of 'Energy', of 'Balance', and of the promises 15 to 20. */
final class EnergySentences {
    private EnergySentences() {
    }

    static void all() {
        valid();
        runs();
        spreadWhere();
        spreadHow();
        interpolated();
        oneSide();
        balances();
        promise15();
        promise16();
        promise17();
        promise18();
        promise19();
        promise20();
    }

    /** One meter with these readings from boundary 0 on, a limit, and a multiplier; -1 stands for none. */
    private static MeterTree read(int limit, int multiplier, int... readings) {
        MeterTree tree = Checks.tree(0);
        tree.setRegister(0, 5, limit);
        tree.setMeter(0, multiplier, 1);
        Checks.readings(tree, 0, readings);
        return tree;
    }

    private static void valid() {
        Sentence.section("Energy");
        Sentence.says("Each interval of a meter has an energy, an int, with a quality.");
        MeterTree tree = Sentence.pair();
        for (int interval = 0; interval < 12; interval++) {
            Sentence.due("energy(1, " + interval + ") at first", tree.energy(1, interval), 0);
            Sentence.due("quality(1, " + interval + ") at first", tree.quality(1, interval), 4);
        }
        tree.setRegister(1, 6, 50000);
        tree.setMeter(1, 100, 1);
        tree.setAll(1, 0, 50000);
        for (int interval = 0; interval < 12; interval++) {
            Sentence.due("the greatest energy", tree.energy(1, interval), 5000000);
        }

        Sentence.says("Intervals that are valid have the raw value times the multiplier, with the quality 0.");
        tree = read(100, 7, 99990, 5, 5, 14, 114, 134);
        Sentence.dueEnergies(tree, 105, 0, 63, 700, 140);
        Sentence.dueQualities(tree, 0, 0, 0, 0, 0);
        tree.setMeter(0, 1, 1);
        Sentence.dueEnergies(tree, 15, 0, 9, 100, 20);
        // Also right behind a time in which they were not.
        tree.removeReading(0, 2);
        Sentence.dueQualities(tree, 0, 1, 1, 0, 0);
        tree.setReading(0, 2, 5);
        Sentence.dueQualities(tree, 0, 0, 0, 0, 0);
        tree.setRegister(0, 5, 1);
        Sentence.due("quality(0, 3) above the limit", tree.quality(0, 3), 3);
        tree.setRegister(0, 5, 100);
        tree.setMeter(0, 100, 1);
        Sentence.dueEnergies(tree, 1500, 0, 900, 10000, 2000);
    }

    private static void runs() {
        Sentence.says("The others are considered in runs: a run is a longest sequence of neighbouring intervals s to e that are not valid.");
        // A run of one too much, two missing, and one too much: 10 and 60 are its ends.
        MeterTree tree = read(100, 1, 0, 10, 500, -1, 700, 900, 960);
        Sentence.dueEnergies(tree, 10, 20, 30, 40, 50, 60);
        Sentence.dueQualities(tree, 0, 2, 2, 2, 2, 0);
        // One valid interval parts two runs.
        tree = read(100, 1, 0, 10, 500, 530, 900, 960, 1500);
        Sentence.dueEnergies(tree, 10, 20, 30, 45, 60, 60);
        Sentence.dueQualities(tree, 0, 2, 0, 2, 0, 3);
        // A spike is a run of its own.
        tree = read(100, 1, 0, 10, 90, 104, 104, 110);
        Sentence.dueEnergies(tree, 10, 12, 14, 0, 6);
        Sentence.dueQualities(tree, 0, 2, 0, 0, 0);
    }

    private static void spreadWhere() {
        Sentence.says("If all intervals of the run are missing,");
        // ADVANCE(1, 4) is 50 and in its bound of 60, but interval 3 is too much, or interval 1, or both.
        MeterTree tree = read(20, 1, 0, 10, -1, 30, 60, 64);
        Sentence.dueEnergies(tree, 10, 8, 7, 5, 4);
        Sentence.dueQualities(tree, 0, 2, 2, 2, 0);
        tree = read(20, 1, 0, 10, 40, -1, 60, 64);
        Sentence.dueEnergies(tree, 10, 8, 7, 5, 4);
        Sentence.dueQualities(tree, 0, 2, 2, 2, 0);
        tree = read(20, 1, 0, 10, 40, -1, 39, 60, 64);
        Sentence.dueQualities(tree, 0, 2, 2, 2, 2, 0);
        // A spike, whose advance is within the limit.
        tree = read(100, 1, 0, 10, 100, 110);
        Sentence.dueQualities(tree, 0, 2, 0);
        // A reading between missing intervals leaves them missing.
        tree = read(20, 1, 0, 10, -1, 500, -1, 54, 55);
        Sentence.dueEnergies(tree, 10, 11, 11, 11, 11, 1);
        Sentence.dueQualities(tree, 0, 1, 1, 1, 1, 0);

        Sentence.says("and there are readings at the boundaries s and e + 1,");
        tree = read(20, 1, -1, -1, -1, 33, 43);
        Sentence.dueEnergies(tree, 10, 10, 10, 10);
        Sentence.dueQualities(tree, 3, 3, 3, 0);
        tree.setReading(0, 0, 0);
        Sentence.dueEnergies(tree, 11, 11, 11, 10);
        Sentence.dueQualities(tree, 1, 1, 1, 0);
        tree = read(20, 1, -1, -1, -1, -1, -1, -1, -1, -1, 50, 60, -1, -1, -1);
        Sentence.due("energy(0, 11)", tree.energy(0, 11), 10);
        Sentence.due("quality(0, 11)", tree.quality(0, 11), 3);
        tree.setReading(0, 12, 93);
        Sentence.due("energy(0, 11) with a reading at 12", tree.energy(0, 11), 11);
        Sentence.due("quality(0, 11) with a reading at 12", tree.quality(0, 11), 1);
        tree = read(20, 1, 5, -1, -1, -1, -1, -1, -1, -1, -1, -1, -1, -1, -1);
        Sentence.due("quality(0, 5) with a reading at 0 alone", tree.quality(0, 5), 4);
        tree.setReading(0, 12, 17);
        Sentence.due("quality(0, 5) with readings at 0 and 12", tree.quality(0, 5), 1);
        tree.removeReading(0, 0);
        Sentence.due("quality(0, 5) with a reading at 12 alone", tree.quality(0, 5), 4);

        Sentence.says("and ADVANCE(s, e + 1) is at most the limit times the number of intervals of the run:");
        for (int limit = 11; limit <= 12; limit++) {
            tree = read(limit, 5, 99970, 99980, -1, -1, 12 + limit, 13 + limit);
            // The advance rolls over: it is 20 more than the reading behind the run.
            Sentence.due("far too great", tree.quality(0, 2), 2);
            tree.setReading(0, 4, 3 * limit - 20);
            tree.setReading(0, 5, 3 * limit - 19);
            Sentence.due("at the bound", tree.quality(0, 2), 1);
            Sentence.due("at the bound", tree.energy(0, 2), 5 * limit);
            tree.setReading(0, 4, 3 * limit - 19);
            Sentence.due("above the bound", tree.quality(0, 2), 2);
        }
        tree = read(1, 1, 100, -1, -1, -1, -1, -1, -1, -1, -1, -1, -1, -1, 112);
        Sentence.due("the whole day at the bound", tree.quality(0, 0), 1);
        tree.setReading(0, 12, 113);
        Sentence.due("the whole day above the bound", tree.quality(0, 0), 4);
        tree.setRegister(0, 6, 50000);
        tree.setReading(0, 0, 400001);
        tree.setReading(0, 12, 1);
        Sentence.due("600000 over the whole day", tree.energy(0, 11), 50000);
        tree.setReading(0, 12, 2);
        Sentence.due("600001 over the whole day", tree.energy(0, 11), 0);
    }

    private static void spreadHow() {
        Sentence.says("let t be ADVANCE(s, e + 1) times the multiplier, and n the number of intervals;");
        MeterTree tree = read(20, 3, 0, 10, -1, -1, 41, 42);
        Sentence.dueEnergies(tree, 30, 31, 31, 31, 3);
        tree = read(20, 100, 0, 10, -1, -1, 41, 42);
        Sentence.dueEnergies(tree, 1000, 1034, 1033, 1033, 100);
        tree = read(20, 7, 0, 10, -1, 17, 18);
        Sentence.dueEnergies(tree, 70, 25, 24, 7);

        Sentence.says("each gets t / n (integer division),");
        tree = read(20, 1, 0, 10, -1, -1, 43, 44);
        Sentence.dueEnergies(tree, 10, 11, 11, 11, 1);
        tree = read(20, 1, 0, 10, -1, -1, 10, 11);
        Sentence.dueEnergies(tree, 10, 0, 0, 0, 1);
        tree = read(50000, 100, 0, -1, -1, -1, -1, -1, -1, -1, -1, -1, -1, -1, 99996);
        Sentence.dueEnergies(tree, 833300, 833300, 833300, 833300, 833300, 833300, 833300, 833300, 833300, 833300, 833300, 833300);

        Sentence.says("and the first t % n of them 1 more.");
        tree = read(20, 1, 0, 10, -1, -1, 41, 42);
        Sentence.dueEnergies(tree, 10, 11, 10, 10, 1);
        tree = read(20, 1, 0, 10, -1, -1, 42, 43);
        Sentence.dueEnergies(tree, 10, 11, 11, 10, 1);
        tree = read(20, 1, 0, -1, -1, -1, -1, -1, -1, -1, -1, -1, -1, -1, 11);
        Sentence.dueEnergies(tree, 1, 1, 1, 1, 1, 1, 1, 1, 1, 1, 1, 0);
        tree = read(20, 1, 0, -1, -1, -1, -1, -1, -1, -1, -1, -1, -1, -1, 13);
        Sentence.dueEnergies(tree, 2, 1, 1, 1, 1, 1, 1, 1, 1, 1, 1, 1);

        Sentence.says("The quality is 1.");
        Sentence.dueQualities(tree, 1, 1, 1, 1, 1, 1, 1, 1, 1, 1, 1, 1);
        // A single missing interval cannot have both its readings, so two are the shortest such run.
        tree = read(20, 1, 0, 10, -1, 30, 31);
        Sentence.dueQualities(tree, 0, 1, 1, 0);
    }

    private static void interpolated() {
        Sentence.says("Otherwise, if there are valid intervals before and behind the run,");
        MeterTree tree = Sentence.alone(5, 100, 4, 500, 8);
        Sentence.dueEnergies(tree, 4, 6, 8);
        Sentence.dueQualities(tree, 0, 2, 0);
        tree = Sentence.alone(5, 100, 500, 8, 500);
        Sentence.dueQualities(tree, 3, 0, 3);
        tree = Sentence.alone(5, 100, 1, 1, 1, 1, 1, 1, 1, 1, 1, 4, 500, 8);
        Sentence.due("energy(0, 10)", tree.energy(0, 10), 6);
        Sentence.due("quality(0, 10)", tree.quality(0, 10), 2);

        Sentence.says("let a be the energy of interval s - 1 and b that of interval e + 1: interval i gets (a * (e + 1 - i) + b * (i - s + 1)) / (e - s + 2) (integer division).");
        tree = Sentence.alone(5, 100, 10, 500, 21);
        Sentence.dueEnergies(tree, 10, 15, 21);
        tree.setMeter(0, 2, 1);
        Sentence.dueEnergies(tree, 20, 31, 42);
        tree = Sentence.alone(5, 100, 10, 500, 500, 21);
        Sentence.dueEnergies(tree, 10, 13, 17, 21);
        tree = Sentence.alone(5, 100, 21, 500, 500, 10);
        Sentence.dueEnergies(tree, 21, 17, 13, 10);
        tree = Sentence.alone(5, 100, 0, 500, 500, 500, 500, 500, 500, 500, 500, 500, 500, 11);
        Sentence.dueEnergies(tree, 0, 1, 2, 3, 4, 5, 6, 7, 8, 9, 10, 11);
        tree = Sentence.alone(6, 50000, 50000, 60000, 60000, 60000, 60000, 60000, 60000, 60000, 60000, 60000, 60000, 39000);
        tree.setMeter(0, 100, 1);
        Sentence.dueEnergies(tree, 5000000, 4900000, 4800000, 4700000, 4600000, 4500000, 4400000, 4300000, 4200000, 4100000, 4000000, 3900000);

        Sentence.says("The quality is 2.");
        Sentence.dueQualities(tree, 0, 2, 2, 2, 2, 2, 2, 2, 2, 2, 2, 0);
    }

    private static void oneSide() {
        Sentence.says("Otherwise, if there is a valid interval on one side, all get its energy (that of interval s - 1, or e + 1).");
        MeterTree tree = Sentence.alone(5, 100, 7, 8);
        tree.setMeter(0, 3, 1);
        Sentence.dueEnergies(tree, 21, 24, 24, 24, 24, 24, 24, 24, 24, 24, 24, 24);
        Sentence.dueQualities(tree, 0, 0, 3, 3, 3, 3, 3, 3, 3, 3, 3, 3);
        tree = Sentence.alone(5, 100, 500, 500, 500, 500, 500, 500, 500, 500, 500, 500, 9, 7);
        Sentence.dueEnergies(tree, 9, 9, 9, 9, 9, 9, 9, 9, 9, 9, 9, 7);
        Sentence.dueQualities(tree, 3, 3, 3, 3, 3, 3, 3, 3, 3, 3, 0, 0);

        // The valid interval is the first one, or the last one.
        tree = Sentence.alone(5, 100, 7, 500, 500, 500, 500, 500, 500, 500, 500, 500, 500, 500);
        Sentence.dueEnergies(tree, 7, 7, 7, 7, 7, 7, 7, 7, 7, 7, 7, 7);
        Sentence.dueQualities(tree, 0, 3, 3, 3, 3, 3, 3, 3, 3, 3, 3, 3);
        tree = Sentence.alone(5, 100, 500, 500, 500, 500, 500, 500, 500, 500, 500, 500, 500, 7);
        Sentence.dueEnergies(tree, 7, 7, 7, 7, 7, 7, 7, 7, 7, 7, 7, 7);
        Sentence.dueQualities(tree, 3, 3, 3, 3, 3, 3, 3, 3, 3, 3, 3, 0);

        Sentence.says("The quality is 3.");
        tree = Sentence.alone(5, 100, 500, 1, 1, 1, 1, 1, 1, 1, 1, 1, 1, 500);
        Sentence.due("quality(0, 0)", tree.quality(0, 0), 3);
        Sentence.due("quality(0, 11)", tree.quality(0, 11), 3);

        Sentence.says("Otherwise all get 0, with the quality 4.");
        tree = Sentence.alone(5, 100, 500, 500, 500, 500, 500, 500, 500, 500, 500, 500, 500, 500);
        Sentence.dueEnergies(tree, 0, 0, 0, 0, 0, 0, 0, 0, 0, 0, 0, 0);
        Sentence.dueQualities(tree, 4, 4, 4, 4, 4, 4, 4, 4, 4, 4, 4, 4);
        tree = Checks.tree(0);
        Sentence.dueEnergies(tree, 0, 0, 0, 0, 0, 0, 0, 0, 0, 0, 0, 0);
        Sentence.dueQualities(tree, 4, 4, 4, 4, 4, 4, 4, 4, 4, 4, 4, 4);
    }

    /** Two meters, one below the other, whose intervals all have these energies. */
    private static MeterTree below(int own, int under) {
        MeterTree tree = Sentence.pair();
        tree.setAll(0, 0, own);
        tree.setAll(1, 0, under);
        return tree;
    }

    private static void balances() {
        Sentence.section("Balance");
        Sentence.says("The loss of a meter with children, in an interval, is its energy minus the sum of those of its children.");
        MeterTree tree = Sentence.family();
        Sentence.due("loss(0, 0), without the grandchild", tree.loss(0, 0), 10);
        Sentence.due("loss(1, 0)", tree.loss(1, 0), 5);
        tree = Checks.tree(0, 0, 0, 0, 0, 0, 0, 0, 0, 0);
        for (int meter = 1; meter < 10; meter++) {
            tree.setAll(meter, 0, meter);
        }
        Sentence.due("loss(0, 11) of nine children", tree.loss(0, 11), -45);

        Sentence.says("The balance is 1 if the loss is negative,");
        Sentence.due("no loss", below(100, 100).balance(0, 0), 0);
        Sentence.due("a loss of -1", below(100, 101).balance(0, 0), 1);
        Sentence.due("a loss of -1 of 0", below(0, 1).balance(0, 0), 1);
        tree = below(100, 101);
        tree.setRules(5, 1000);
        Sentence.due("a loss of -1, all is tolerated", tree.balance(0, 0), 1);

        Sentence.says("2 if the loss times 1000 is greater than its energy times the tolerance");
        Sentence.due("a loss of 50 thousandths", below(1000, 950).balance(0, 0), 0);
        Sentence.due("a loss of 51 thousandths", below(1000, 949).balance(0, 0), 2);
        // 1000 times the loss of 2150000 is beyond the ints; 5000000 times 429 is not.
        tree = Sentence.pair();
        for (int meter = 0; meter < 2; meter++) {
            tree.setRegister(meter, 6, 50000);
            tree.setMeter(meter, 100, 1);
        }
        tree.setAll(0, 0, 50000);
        tree.setAll(1, 0, 28500);
        tree.setRules(5, 430);
        Sentence.due("a great loss of 430 thousandths", tree.balance(0, 0), 0);
        tree.setRules(5, 429);
        Sentence.due("a great loss above 429 thousandths", tree.balance(0, 0), 2);

        Sentence.says("(0 to 1000; 50 at first),");
        tree = below(100, 99);
        tree.setRules(5, 0);
        Sentence.due("a loss of 1, tolerance 0", tree.balance(0, 0), 2);
        tree = below(100, 100);
        tree.setRules(5, 0);
        Sentence.due("no loss, tolerance 0", tree.balance(0, 0), 0);
        tree = below(100, 0);
        tree.setRules(5, 1000);
        Sentence.due("all is lost, tolerance 1000", tree.balance(0, 0), 0);
        tree.setRules(5, 999);
        Sentence.due("all is lost, tolerance 999", tree.balance(0, 0), 2);
        Sentence.due("a loss of 5 of 100 at first", below(100, 95).balance(0, 0), 0);
        Sentence.due("a loss of 6 of 100 at first", below(100, 94).balance(0, 0), 2);

        Sentence.says("otherwise 0.");
        Sentence.due("no energy at all", below(0, 0).balance(0, 0), 0);
        Sentence.due("no readings at all", Sentence.pair().balance(0, 0), 0);
        Sentence.due("a loss in the tolerance", below(100, 97).balance(0, 0), 0);
    }

    private static void promise15() {
        Sentence.section("Promise 15: energy");
        Sentence.says("Returns the energy of an interval.", "Returns the energy;", "`interval`: 0 to 11");
        MeterTree tree = Sentence.alone(5, 100, 1, 2, 3, 4, 5, 6, 7, 8, 9, 10, 11, 12);
        for (int interval = 0; interval < 12; interval++) {
            Sentence.due("energy(0, " + interval + ")", tree.energy(0, interval), interval + 1);
        }
        Sentence.onlyAsks("energy(1, 5)", Sentence::family, one -> one.energy(1, 5));

        Sentence.says("BAD_INDEX if there is no such meter or interval.", "`meter`: number of the meter");
        Sentence.refused("energy(0, 0)", MeterTree::new, one -> one.energy(0, 0), Checks.BAD_INDEX);
        for (int meter : Sentence.outside(0, 3)) {
            Sentence.refused("energy(" + meter + ", 0)", Sentence::family, one -> one.energy(meter, 0), Checks.BAD_INDEX);
        }
        for (int interval : Sentence.outside(0, 11)) {
            Sentence.refused("energy(3, " + interval + ")", Sentence::family, one -> one.energy(3, interval), Checks.BAD_INDEX);
        }
    }

    private static void promise16() {
        Sentence.section("Promise 16: quality");
        Sentence.says("Returns the quality of an interval.", "Returns 0 to 4;", "`interval`: 0 to 11");
        MeterTree tree = read(100, 1, -1, 10, 20, 500, 530, -1, -1, 560, 561);
        Sentence.dueQualities(tree, 3, 0, 2, 0, 1, 1, 1, 0, 3, 3, 3, 3);
        Sentence.due("quality(1, 0) of a meter without readings", Sentence.pair().quality(1, 0), 4);
        Sentence.onlyAsks("quality(1, 5)", Sentence::family, one -> one.quality(1, 5));

        Sentence.says("BAD_INDEX if there is no such meter or interval.", "`meter`: number of the meter");
        Sentence.refused("quality(0, 0)", MeterTree::new, one -> one.quality(0, 0), Checks.BAD_INDEX);
        for (int meter : Sentence.outside(0, 3)) {
            Sentence.refused("quality(" + meter + ", 0)", Sentence::family, one -> one.quality(meter, 0), Checks.BAD_INDEX);
        }
        for (int interval : Sentence.outside(0, 11)) {
            Sentence.refused("quality(3, " + interval + ")", Sentence::family, one -> one.quality(3, interval), Checks.BAD_INDEX);
        }
    }

    private static void promise17() {
        Sentence.section("Promise 17: day");
        Sentence.says("Returns a sum over all intervals of a meter.", "Returns the sum;");
        MeterTree tree = Sentence.family();
        int[] sums = {1200, 120, 1200, 0};
        for (int what = 0; what <= 3; what++) {
            int asked = what;
            Sentence.due("day(0, " + what + ")", tree.day(0, what), sums[what]);
            Sentence.onlyAsks("day(0, " + what + ")", Sentence::family, one -> one.day(0, asked));
        }

        Sentence.says("`what`: 0 of its energies,");
        Sentence.due("day(0, 0)", Sentence.alone(5, 100, 1, 2, 3, 4, 5, 6, 7, 8, 9, 10, 11, 12).day(0, 0), 78);
        tree.removeReading(1, 0);
        tree.removeReading(1, 7);
        tree.removeReading(1, 12);
        Sentence.due("day(1, 0) with estimates", tree.day(1, 0), 720);
        Sentence.due("day(1, 0) without readings", Sentence.pair().day(1, 0), 0);

        Sentence.says("1 of its losses (NONE for a leaf),");
        tree = below(100, 10);
        Sentence.raws(tree, 1, 100, 90, 120, 100, 100, 100, 100, 100, 100, 100, 100, 99);
        Sentence.due("day(0, 1)", tree.day(0, 1), 10 - 20 + 1);
        Sentence.due("day(1, 1) of a leaf", tree.day(1, 1), Checks.NONE);
        Sentence.due("day(0, 1) of the only meter", Checks.tree(0).day(0, 1), Checks.NONE);
        Sentence.due("day(0, 1) without losses", Sentence.pair().day(0, 1), 0);

        Sentence.says("2 of its billed energies,");
        tree = below(100, 10);
        Sentence.raws(tree, 0, 1, 2, 3, 4, 5, 6, 7, 8, 9, 10, 11, 12);
        Sentence.due("day(0, 2)", tree.day(0, 2), 78);
        Sentence.due("day(1, 2)", tree.day(1, 2), 78);

        Sentence.says("3 how many intervals are not valid");
        tree = Sentence.alone(5, 100, 7, 100, 1, 50, 1, 101, 3, 3, 3, 3, 3, 3);
        Sentence.due("two spikes and one too much", tree.day(0, 3), 3);
        tree.removeReading(0, 12);
        Sentence.due("and one missing", tree.day(0, 3), 4);
        Sentence.due("all valid", below(100, 10).day(0, 3), 0);
        Sentence.due("all missing", Sentence.pair().day(1, 3), 12);

        Sentence.says("BAD_INDEX if there is no such meter;", "`meter`: number of the meter");
        Sentence.refused("day(0, 0)", MeterTree::new, one -> one.day(0, 0), Checks.BAD_INDEX);
        for (int meter : Sentence.outside(0, 3)) {
            for (int what = -1; what <= 4; what++) {
                int asked = what;
                Sentence.refused("day(" + meter + ", " + what + ")", Sentence::family, one -> one.day(meter, asked), Checks.BAD_INDEX);
            }
        }

        Sentence.says("BAD_VALUE if what is out of range.");
        for (int what : Sentence.outside(0, 3)) {
            Sentence.refused("day(0, " + what + ")", Sentence::family, one -> one.day(0, what), Checks.BAD_VALUE);
            Sentence.refused("day(3, " + what + ") of a leaf", Sentence::family, one -> one.day(3, what), Checks.BAD_VALUE);
        }
    }

    private static void promise18() {
        Sentence.section("Promise 18: loss");
        Sentence.says("Returns the loss of a meter.", "Returns the loss;", "`interval`: 0 to 11");
        MeterTree tree = below(100, 10);
        Sentence.raws(tree, 1, 1, 15, 3, 4, 5, 6, 7, 8, 9, 100, 111, 120);
        int[] losses = {99, 85, 97, 96, 95, 94, 93, 92, 91, 0, -11, -20};
        for (int interval = 0; interval < 12; interval++) {
            Sentence.due("loss(0, " + interval + ")", tree.loss(0, interval), losses[interval]);
        }
        Sentence.onlyAsks("loss(0, 5)", Sentence::family, one -> one.loss(0, 5));

        Sentence.says("NONE for a leaf;");
        Sentence.due("loss(1, 0)", tree.loss(1, 0), Checks.NONE);
        Sentence.due("loss(0, 11) of the only meter", Checks.tree(0).loss(0, 11), Checks.NONE);

        Sentence.says("BAD_INDEX if there is no such meter or interval.", "`meter`: number of the meter");
        Sentence.refused("loss(0, 0)", MeterTree::new, one -> one.loss(0, 0), Checks.BAD_INDEX);
        for (int meter : Sentence.outside(0, 3)) {
            Sentence.refused("loss(" + meter + ", 0)", Sentence::family, one -> one.loss(meter, 0), Checks.BAD_INDEX);
        }
        for (int interval : Sentence.outside(0, 11)) {
            Sentence.refused("loss(0, " + interval + ")", Sentence::family, one -> one.loss(0, interval), Checks.BAD_INDEX);
            Sentence.refused("loss(3, " + interval + ") of a leaf", Sentence::family, one -> one.loss(3, interval), Checks.BAD_INDEX);
        }
    }

    private static void promise19() {
        Sentence.section("Promise 19: balance");
        Sentence.says("Returns the balance of a meter.", "Returns 0 to 2;", "`interval`: 0 to 11");
        MeterTree tree = below(100, 10);
        Sentence.raws(tree, 1, 101, 100, 99, 95, 94, 93, 200, 100, 100, 0, 100, 101);
        int[] balances = {1, 0, 0, 0, 2, 2, 1, 0, 0, 2, 0, 1};
        for (int interval = 0; interval < 12; interval++) {
            Sentence.due("balance(0, " + interval + ")", tree.balance(0, interval), balances[interval]);
        }
        Sentence.onlyAsks("balance(0, 5)", Sentence::family, one -> one.balance(0, 5));

        Sentence.says("NONE for a leaf;");
        Sentence.due("balance(1, 0)", tree.balance(1, 0), Checks.NONE);
        Sentence.due("balance(0, 11) of the only meter", Checks.tree(0).balance(0, 11), Checks.NONE);

        Sentence.says("BAD_INDEX if there is no such meter or interval.", "`meter`: number of the meter");
        Sentence.refused("balance(0, 0)", MeterTree::new, one -> one.balance(0, 0), Checks.BAD_INDEX);
        for (int meter : Sentence.outside(0, 3)) {
            Sentence.refused("balance(" + meter + ", 0)", Sentence::family, one -> one.balance(meter, 0), Checks.BAD_INDEX);
        }
        for (int interval : Sentence.outside(0, 11)) {
            Sentence.refused("balance(0, " + interval + ")", Sentence::family, one -> one.balance(0, interval), Checks.BAD_INDEX);
            Sentence.refused("balance(3, " + interval + ") of a leaf", Sentence::family, one -> one.balance(3, interval), Checks.BAD_INDEX);
        }
    }

    private static void promise20() {
        Sentence.section("Promise 20: nextFault");
        Sentence.says("Returns the first interval in which a meter with children has a balance other than 0, behind another interval.", "Returns the interval;");
        MeterTree tree = below(100, 10);
        Sentence.raws(tree, 1, 90, 100, 100, 100, 110, 100, 100, 100, 100, 100, 100, 90);
        int[] due = {0, 4, 4, 4, 4, 11, 11, 11, 11, 11, 11, 11};
        for (int interval = -1; interval <= 10; interval++) {
            Sentence.due("nextFault(0, " + interval + ")", tree.nextFault(0, interval), due[interval + 1]);
        }
        Sentence.onlyAsks("nextFault(0, 5)", Sentence::family, one -> one.nextFault(0, 5));

        Sentence.says("`interval`: -1 to 11");
        Sentence.due("nextFault(0, -1)", tree.nextFault(0, -1), 0);
        Sentence.due("nextFault(0, 11)", tree.nextFault(0, 11), Checks.NONE);

        Sentence.says("NONE if there is none, or for a leaf;");
        tree = below(100, 100);
        for (int interval = -1; interval <= 11; interval++) {
            Sentence.due("nextFault(0, " + interval + ")", tree.nextFault(0, interval), Checks.NONE);
            Sentence.due("nextFault(1, " + interval + ") of a leaf", tree.nextFault(1, interval), Checks.NONE);
        }
        Sentence.raws(tree, 1, 90, 100, 100, 100, 110, 100, 100);
        Sentence.due("nextFault(0, 4)", tree.nextFault(0, 4), Checks.NONE);

        Sentence.says("BAD_INDEX if there is no such meter;", "`meter`: number of the meter");
        Sentence.refused("nextFault(0, 0)", MeterTree::new, one -> one.nextFault(0, 0), Checks.BAD_INDEX);
        for (int meter : Sentence.outside(0, 3)) {
            Sentence.refused("nextFault(" + meter + ", 0)", Sentence::family, one -> one.nextFault(meter, 0), Checks.BAD_INDEX);
            Sentence.refused("nextFault(" + meter + ", 12)", Sentence::family, one -> one.nextFault(meter, 12), Checks.BAD_INDEX);
        }

        Sentence.says("BAD_VALUE if interval is out of range.");
        for (int interval : Sentence.outside(-1, 11)) {
            Sentence.refused("nextFault(0, " + interval + ")", Sentence::family, one -> one.nextFault(0, interval), Checks.BAD_VALUE);
            Sentence.refused("nextFault(3, " + interval + ") of a leaf", Sentence::family, one -> one.nextFault(3, interval), Checks.BAD_VALUE);
        }
    }
}
