/** Promises 15 to 20: energies with their qualities, sums, losses and balances. */
public final class EnergyTest {
    private static final int[] WRONG_INTERVALS = {-1, 12, Integer.MIN_VALUE, Integer.MAX_VALUE};

    public static void main(String[] args) {
        promises15And16();
        advanceOverARun();
        promise17();
        promise18();
        promise19();
        promise20();
        Checks.end("EnergyTest");
    }

    private static void dueRow(String name, MeterTree tree, int meter, int[] energies, int[] qualities) {
        for (int interval = 0; interval < energies.length; interval++) {
            Checks.due(name + ", energy " + interval, tree.energy(meter, interval), energies[interval]);
            Checks.due(name + ", quality " + interval, tree.quality(meter, interval), qualities[interval]);
        }
    }

    private static void promises15And16() {
        MeterTree tree = Checks.tree(0);
        dueRow("no readings", tree, 0, new int[12], new int[] {4, 4, 4, 4, 4, 4, 4, 4, 4, 4, 4, 4});
        tree.setMeter(0, 3, 1);
        Checks.readings(tree, 0, 0, 10, -1, -1, 41, 51, -1, 72);
        // The reading at 7 does not part the last run: both intervals beside it are missing.
        dueRow("spread", tree, 0, new int[] {30, 31, 31, 31, 30, 30, 30, 30, 30, 30, 30, 30},
            new int[] {0, 1, 1, 1, 0, 3, 3, 3, 3, 3, 3, 3});
        tree.setReading(0, 8, 80);
        dueRow("spread", tree, 0, new int[] {30, 31, 31, 31, 30, 32, 31, 24, 24, 24, 24, 24},
            new int[] {0, 1, 1, 1, 0, 1, 1, 0, 3, 3, 3, 3});
        tree.setReading(0, 4, 42);
        dueRow("remainder goes to the first", tree, 0, new int[] {30, 32, 32, 32, 27}, new int[] {0, 1, 1, 1, 0});
        tree.setReading(0, 4, 43);
        tree.setMeter(0, 1, 1);
        dueRow("no remainder", tree, 0, new int[] {10, 11, 11, 11, 8}, new int[] {0, 1, 1, 1, 0});
        tree.setReading(0, 4, 45);
        dueRow("two of three get one more", tree, 0, new int[] {10, 12, 12, 11, 6}, new int[] {0, 1, 1, 1, 0});
        tree.setRegister(0, 5, 11);
        dueRow("too great an advance", tree, 0, new int[] {10, 9, 8, 7, 6}, new int[] {0, 2, 2, 2, 0});
        tree.setRegister(0, 5, 12);
        dueRow("an advance in its bound", tree, 0, new int[] {10, 12, 12, 11, 6}, new int[] {0, 1, 1, 1, 0});
        tree.removeReading(0, 0);
        dueRow("nothing before", tree, 0, new int[] {6, 6, 6, 6, 6}, new int[] {3, 3, 3, 3, 0});
        for (int interval : WRONG_INTERVALS) {
            Checks.due("no interval", tree.energy(0, interval), Checks.BAD_INDEX);
            Checks.due("no interval", tree.quality(0, interval), Checks.BAD_INDEX);
        }
        Checks.due("no meter", tree.energy(1, 0), Checks.BAD_INDEX);
        Checks.due("no meter", tree.quality(-1, 0), Checks.BAD_INDEX);
    }

    private static void advanceOverARun() {
        MeterTree tree = Checks.tree(0);
        tree.setRegister(0, 5, 20);
        // A run that holds a missing interval and one that is too great is not spread.
        Checks.readings(tree, 0, 0, 10, -1, 30, 60, 64);
        dueRow("mixed run", tree, 0, new int[] {10, 8, 7, 5, 4}, new int[] {0, 2, 2, 2, 0});
        // A reading amid missing intervals does not matter.
        Checks.readings(tree, 0, 0, 10, -1, 500, -1, 50, 51);
        dueRow("reading inside", tree, 0, new int[] {10, 10, 10, 10, 10, 1}, new int[] {0, 1, 1, 1, 1, 0});
        // The whole day from its first and its last reading.
        Checks.readings(tree, 0, 99990, -1, -1, -1, -1, -1, -1, -1, -1, -1, -1, -1, 15);
        dueRow("whole day", tree, 0, new int[] {3, 2, 2, 2, 2, 2, 2, 2, 2, 2, 2, 2},
            new int[] {1, 1, 1, 1, 1, 1, 1, 1, 1, 1, 1, 1});
        tree.setReading(0, 12, 231);
        Checks.due("whole day, too great", tree.quality(0, 0), 4);
        tree.setReading(0, 12, 230);
        Checks.due("whole day, in bound", tree.energy(0, 11), 20);
        // Too much alone, at each edge and amid.
        Checks.readings(tree, 0, 0, 30, 40, 90, 94, 98, 102, 106, 110, 114, 118, 122, 199);
        dueRow("too much", tree, 0, new int[] {10, 10, 7, 4, 4, 4, 4, 4, 4, 4, 4, 4},
            new int[] {3, 0, 2, 0, 0, 0, 0, 0, 0, 0, 0, 3});
        Checks.readings(tree, 0, -1, -1, -1, -1, -1, -1, -1, -1, -1, -1, -1, 5, 12);
        dueRow("only the last", tree, 0, new int[] {7, 7, 7, 7, 7, 7, 7, 7, 7, 7, 7, 7},
            new int[] {3, 3, 3, 3, 3, 3, 3, 3, 3, 3, 3, 0});
        Checks.readings(tree, 0, 5, 12, -1, -1, -1, -1, -1, -1, -1, -1, -1, -1, -1);
        dueRow("only the first", tree, 0, new int[] {7, 7, 7, 7, 7, 7, 7, 7, 7, 7, 7, 7},
            new int[] {0, 3, 3, 3, 3, 3, 3, 3, 3, 3, 3, 3});
        tree.setAll(0, 0, 30);
        dueRow("all too much", tree, 0, new int[12], new int[] {4, 4, 4, 4, 4, 4, 4, 4, 4, 4, 4, 4});
        tree.setRegister(0, 6, 50000);
        tree.setMeter(0, 100, 1);
        tree.setAll(0, 0, 50000);
        Checks.due("greatest energy", tree.energy(0, 0), 5000000);
        tree.removeReading(0, 5);
        dueRow("greatest advance", tree, 0, new int[] {5000000, 5000000, 5000000, 5000000, 5000000, 5000000},
            new int[] {0, 0, 0, 0, 1, 1});
        Checks.readings(tree, 0, 0, 50000, -1, 999999, -1, -1, -1, -1, -1, -1, -1, -1, 49999);
        Checks.due("long interpolation", tree.quality(0, 5), 3);
        Checks.due("long interpolation", tree.energy(0, 5), 5000000);
        Checks.readings(tree, 0, 0, 50000, -1, 999999, -1, -1, -1, -1, -1, -1, -1, 0, 50000);
        Checks.due("great interpolation", tree.quality(0, 5), 2);
        Checks.due("great interpolation", tree.energy(0, 5), 5000000);
    }

    private static void promise17() {
        MeterTree tree = Checks.tree(0, 0, 0);
        tree.setAll(0, 0, 10);
        tree.setAll(1, 0, 3);
        tree.setAll(2, 0, 4);
        tree.setMeter(0, 2, 1);
        Checks.due("energies", tree.day(0, 0), 240);
        Checks.due("losses", tree.day(0, 1), 240 - 84);
        Checks.due("losses of a leaf", tree.day(1, 1), Checks.NONE);
        Checks.due("billed", tree.day(0, 2), 240);
        // 13 of 20 to be given out by 3 : 4 is 5 4/7 : 7 3/7.
        Checks.due("billed", tree.day(1, 2), 12 * (3 + 6));
        Checks.due("billed", tree.day(2, 2), 12 * (4 + 7));
        Checks.due("not valid", tree.day(1, 3), 0);
        tree.removeReading(1, 3);
        Checks.due("not valid", tree.day(1, 3), 2);
        Checks.due("energies", tree.day(1, 0), 36);
        tree.removeReading(1, 0);
        tree.removeReading(1, 12);
        Checks.due("not valid", tree.day(1, 3), 4);
        tree.setReading(1, 7, 99);
        Checks.due("not valid: too much", tree.day(1, 3), 5);
        tree.setReading(1, 8, 102);
        Checks.due("not valid: spike", tree.status(1, 6), 3);
        Checks.due("not valid: spike, too much", tree.day(1, 3), 6);
        for (int what : new int[] {-1, 4, Integer.MIN_VALUE, Integer.MAX_VALUE}) {
            Checks.due("what", tree.day(0, what), Checks.BAD_VALUE);
            Checks.due("what, and no meter", tree.day(3, what), Checks.BAD_INDEX);
        }
        Checks.due("no meter", tree.day(-1, 0), Checks.BAD_INDEX);
        tree.setAll(1, 0, 30);
        Checks.due("negative losses", tree.day(0, 1), 12 * (20 - 34));
    }

    private static void promise18() {
        MeterTree tree = Checks.tree(0, 0, 0, 1);
        tree.setAll(0, 0, 100);
        tree.setAll(1, 0, 60);
        tree.setAll(2, 0, 30);
        tree.setAll(3, 0, 75);
        Checks.due("loss(0, 0)", tree.loss(0, 0), 10);
        Checks.due("loss(0, 11)", tree.loss(0, 11), 10);
        Checks.due("loss(1, 0)", tree.loss(1, 0), -15);
        Checks.due("loss of a leaf", tree.loss(2, 0), Checks.NONE);
        Checks.due("loss of a leaf, no interval", tree.loss(2, 12), Checks.BAD_INDEX);
        for (int interval : WRONG_INTERVALS) {
            Checks.due("no interval", tree.loss(0, interval), Checks.BAD_INDEX);
        }
        Checks.due("no meter", tree.loss(4, 0), Checks.BAD_INDEX);
        tree.removeReading(1, 0);
        Checks.due("estimated", tree.loss(0, 0), 10);
        tree.setMeter(1, 2, 1);
        Checks.due("multiplied", tree.loss(0, 0), -50);
    }

    private static void promise19() {
        MeterTree tree = Checks.tree(0, 0);
        tree.setAll(0, 0, 100);
        tree.setAll(1, 0, 95);
        Checks.due("loss at the tolerance", tree.balance(0, 0), 0);
        tree.setAll(1, 0, 94);
        Checks.due("loss above it", tree.balance(0, 0), 2);
        tree.setAll(1, 0, 100);
        Checks.due("no loss", tree.balance(0, 0), 0);
        tree.setAll(1, 0, 101);
        Checks.due("negative loss", tree.balance(0, 0), 1);
        tree.setRules(5, 0);
        tree.setAll(1, 0, 100);
        Checks.due("no loss, no tolerance", tree.balance(0, 0), 0);
        tree.setAll(1, 0, 99);
        Checks.due("loss, no tolerance", tree.balance(0, 0), 2);
        tree.setRules(5, 1000);
        tree.setAll(1, 0, 0);
        Checks.due("all is lost", tree.balance(0, 0), 0);
        tree.setRules(5, 999);
        Checks.due("all is lost, 999", tree.balance(0, 11), 2);
        Checks.due("leaf", tree.balance(1, 0), Checks.NONE);
        for (int interval : WRONG_INTERVALS) {
            Checks.due("no interval", tree.balance(0, interval), Checks.BAD_INDEX);
            Checks.due("no interval, leaf", tree.balance(1, interval), Checks.BAD_INDEX);
        }
        Checks.due("no meter", tree.balance(2, 0), Checks.BAD_INDEX);
        tree.setRegister(0, 6, 50000);
        tree.setMeter(0, 100, 1);
        tree.setAll(0, 0, 50000);
        tree.setRules(5, 1000);
        Checks.due("five millions, lost", tree.balance(0, 0), 0);
        tree.setRules(5, 999);
        Checks.due("five millions, lost, 999", tree.balance(0, 0), 2);
        tree.setRules(5, 500);
        tree.setRegister(1, 6, 50000);
        tree.setMeter(1, 100, 1);
        tree.setAll(1, 0, 25000);
        Checks.due("half of five millions", tree.balance(0, 0), 0);
        tree.setAll(1, 0, 24999);
        Checks.due("half of five millions, and more", tree.balance(0, 0), 2);
    }

    private static void promise20() {
        MeterTree tree = Checks.tree(0, 0);
        tree.setAll(0, 0, 100);
        tree.setAll(1, 0, 100);
        Checks.due("no fault", tree.nextFault(0, -1), Checks.NONE);
        Checks.readings(tree, 1, 0, 90, 190, 290, 390, 500, 600, 700, 800, 900, 1000, 1100, 1190);
        int[] due = {0, 4, 4, 4, 4, 11, 11, 11, 11, 11, 11, 11, Checks.NONE};
        for (int interval = -1; interval <= 11; interval++) {
            Checks.due("nextFault(0, " + interval + ")", tree.nextFault(0, interval), due[interval + 1]);
        }
        Checks.due("leaf", tree.nextFault(1, 0), Checks.NONE);
        for (int interval : new int[] {-2, 12, Integer.MIN_VALUE, Integer.MAX_VALUE}) {
            Checks.due("no interval", tree.nextFault(0, interval), Checks.BAD_VALUE);
            Checks.due("no interval, leaf", tree.nextFault(1, interval), Checks.BAD_VALUE);
            Checks.due("no interval, no meter", tree.nextFault(2, interval), Checks.BAD_INDEX);
        }
        Checks.due("no meter", tree.nextFault(-1, 0), Checks.BAD_INDEX);
    }
}
