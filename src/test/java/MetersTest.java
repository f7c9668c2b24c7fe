/** Promises 1 to 8: a new object, the meters and their settings. */
public final class MetersTest {
    public static void main(String[] args) {
        promise1();
        promise2();
        promise3();
        promise4();
        promise5();
        promise6();
        promise7();
        promise8();
        Checks.end("MetersTest");
    }

    private static void promise1() {
        MeterTree tree = new MeterTree();
        Checks.due("new meters", tree.meters(), 0);
        Checks.due("new revisions", tree.revisions(), 0);
        Checks.due("new undo", tree.undo(), Checks.BAD_STATE);
        Checks.due("new clearText", tree.clearText(), 0);
        Checks.due("new textFault", tree.textFault(), 0);
        Checks.due("new setRules", tree.setRules(7, 1), 5);
        Checks.due("no meter 0", tree.meter(0, 0), Checks.BAD_INDEX);
        MeterTree other = new MeterTree();
        Checks.due("objects are apart", other.setRules(2, 0), 5);
        long hash = 17L * 31 * 31 * 31 * 31 + 5L * 31 * 31 + 50L * 31;
        Checks.due("digest of a new object", new MeterTree().digest(), hash);
    }

    private static void promise2() {
        for (int first : new int[] {0, -1, 9, Integer.MIN_VALUE, Integer.MAX_VALUE}) {
            MeterTree tree = new MeterTree();
            Checks.due("first addMeter", tree.addMeter(first), 0);
            Checks.due("parent of the main meter", tree.meter(0, 0), Checks.NONE);
        }
        MeterTree tree = Checks.tree(0);
        Checks.due("addMeter(1)", tree.addMeter(1), Checks.BAD_INDEX);
        Checks.due("addMeter(-1)", tree.addMeter(-1), Checks.BAD_INDEX);
        Checks.due("addMeter(NONE)", tree.addMeter(Checks.NONE), Checks.BAD_INDEX);
        Checks.due("errors are not recorded", Checks.historyOf(tree), 1);
        tree = Checks.tree(0);
        for (int meter = 1; meter < 10; meter++) {
            Checks.due("addMeter", tree.addMeter(meter - 1), meter);
        }
        Checks.due("addMeter at ten", tree.addMeter(0), Checks.FULL);
        Checks.due("addMeter at ten, no parent", tree.addMeter(10), Checks.BAD_INDEX);
        Checks.due("ten meters", tree.meters(), 10);
        int[] settings = {8, 1, 5, 10000, 1, 0, 9};
        for (int what = 0; what < settings.length; what++) {
            Checks.due("new meter, what " + what, tree.meter(9, what), settings[what]);
        }
        for (int boundary = 0; boundary <= 12; boundary++) {
            Checks.due("new reading", tree.reading(9, boundary), Checks.NONE);
        }
        tree.undo();
        Checks.due("addMeter undone", tree.meters(), 9);
        Checks.due("the meter is gone", tree.meter(9, 1), Checks.BAD_INDEX);
        promise2Again();
    }

    /** A meter that comes anew in the place of one that was undone has nothing of it. */
    private static void promise2Again() {
        MeterTree tree = Checks.tree(0, 0);
        tree.setMeter(1, 9, 8);
        tree.setRegister(1, 6, 77);
        tree.setAll(1, 5, 6);
        for (int call = 0; call < 4; call++) {
            tree.undo();
        }
        Checks.due("one meter left", tree.meters(), 1);
        Checks.due("again", tree.addMeter(0), 1);
        int[] settings = {0, 1, 5, 10000, 1};
        for (int what = 0; what < settings.length; what++) {
            Checks.due("again, what " + what, tree.meter(1, what), settings[what]);
        }
        for (int boundary = 0; boundary <= 12; boundary++) {
            Checks.due("again, reading", tree.reading(1, boundary), Checks.NONE);
        }
    }

    private static void promise3() {
        MeterTree tree = Checks.tree(0, 0);
        Checks.due("setMeter(1, 100, 100)", tree.setMeter(1, 100, 100), 1);
        Checks.due("setMeter(1, 1, 1)", tree.setMeter(1, 1, 1), 100);
        Checks.due("setMeter(1, 7, 9)", tree.setMeter(1, 7, 9), 1);
        Checks.due("multiplier", tree.meter(1, 1), 7);
        Checks.due("weight", tree.meter(1, 4), 9);
        Checks.due("other multiplier", tree.meter(0, 1), 1);
        int[][] wrong = {{0, 1}, {101, 1}, {1, 0}, {1, 101}, {-1, 5}, {5, -1},
            {Integer.MIN_VALUE, 1}, {1, Integer.MAX_VALUE}};
        long before = tree.digest();
        for (int[] pair : wrong) {
            Checks.due("setMeter out of range", tree.setMeter(1, pair[0], pair[1]), Checks.BAD_VALUE);
        }
        Checks.due("setMeter(2, 0, 0)", tree.setMeter(2, 0, 0), Checks.BAD_INDEX);
        Checks.due("setMeter(-1, 1, 1)", tree.setMeter(-1, 1, 1), Checks.BAD_INDEX);
        Checks.due("nothing changed", tree.digest(), before);
        Checks.due("history", Checks.historyOf(tree), 5);
        tree = Checks.tree(0);
        tree.undo();
        tree = Checks.tree(0);
        before = tree.digest();
        tree.setMeter(0, 1, 1);
        Checks.due("setMeter that changes nothing", tree.undo(), 1);
        Checks.due("same", tree.digest(), before);
    }

    private static void promise4() {
        MeterTree tree = Checks.tree(0, 0);
        tree.setAll(1, 3, 4);
        tree.setAll(0, 1, 2);
        Checks.due("setRegister same digits", tree.setRegister(1, 5, 50000), 5);
        Checks.due("limit", tree.meter(1, 3), 50000);
        Checks.due("readings stay", tree.reading(1, 12), 51);
        Checks.due("setRegister other digits", tree.setRegister(1, 6, 1), 5);
        Checks.due("limit 1", tree.meter(1, 3), 1);
        Checks.due("digits", tree.meter(1, 2), 6);
        for (int boundary = 0; boundary <= 12; boundary++) {
            Checks.due("reading removed", tree.reading(1, boundary), Checks.NONE);
            Checks.due("other meter's reading stays", tree.reading(0, boundary), 1 + 2 * boundary);
        }
        Checks.due("undo", tree.undo() >= 0 ? 1 : 0, 1);
        Checks.due("readings are back", tree.reading(1, 12), 51);
        Checks.due("digits are back", tree.meter(1, 2), 5);
        int[][] wrong = {{2, 5}, {7, 5}, {3, 0}, {3, 50001}, {-3, 5}, {5, -5}};
        long before = tree.digest();
        for (int[] pair : wrong) {
            Checks.due("setRegister out of range", tree.setRegister(1, pair[0], pair[1]), Checks.BAD_VALUE);
        }
        Checks.due("setRegister(2, 0, 0)", tree.setRegister(2, 0, 0), Checks.BAD_INDEX);
        Checks.due("setRegister(-1, 5, 5)", tree.setRegister(-1, 5, 5), Checks.BAD_INDEX);
        Checks.due("nothing changed", tree.digest(), before);
        for (int digits = 3; digits <= 6; digits++) {
            tree.setRegister(0, digits, 10);
            Checks.due("digits " + digits, tree.meter(0, 2), digits);
        }
        Checks.due("previous digits", tree.setRegister(0, 3, 10), 6);
    }

    private static void promise5() {
        MeterTree tree = new MeterTree();
        Checks.due("setRules(2, 0)", tree.setRules(2, 0), 5);
        Checks.due("setRules(20, 1000)", tree.setRules(20, 1000), 2);
        long before = tree.digest();
        int[][] wrong = {{1, 50}, {21, 50}, {5, -1}, {5, 1001}, {Integer.MIN_VALUE, 0}, {2, Integer.MAX_VALUE}};
        for (int[] pair : wrong) {
            Checks.due("setRules out of range", tree.setRules(pair[0], pair[1]), Checks.BAD_VALUE);
        }
        Checks.due("nothing changed", tree.digest(), before);
        Checks.due("undo", tree.undo(), 1);
        Checks.due("setRules after undo", tree.setRules(3, 3), 2);
        Checks.due("history", Checks.historyOf(tree), 2);
    }

    private static void promise6() {
        MeterTree tree = new MeterTree();
        for (int meter = 0; meter < 10; meter++) {
            Checks.due("meters", tree.meters(), meter);
            tree.addMeter(0);
        }
        tree.addMeter(0);
        Checks.due("meters", tree.meters(), 10);
        tree.undo();
        Checks.due("meters after undo", tree.meters(), 9);
    }

    private static void promise7() {
        MeterTree tree = Checks.tree(4, 0, 0, 1, 3, 1, 4);
        tree.setMeter(4, 12, 34);
        tree.setRegister(4, 3, 567);
        int[] four = {3, 12, 3, 567, 34, 1, 3};
        int[] one = {0, 1, 5, 10000, 1, 2, 1};
        int[] main = {Checks.NONE, 1, 5, 10000, 1, 2, 0};
        for (int what = 0; what <= 6; what++) {
            Checks.due("meter(4, " + what + ")", tree.meter(4, what), four[what]);
            Checks.due("meter(1, " + what + ")", tree.meter(1, what), one[what]);
            Checks.due("meter(0, " + what + ")", tree.meter(0, what), main[what]);
        }
        Checks.due("meter(6, 6)", tree.meter(6, 6), 4);
        Checks.due("meter(0, -1)", tree.meter(0, -1), Checks.BAD_VALUE);
        Checks.due("meter(0, 7)", tree.meter(0, 7), Checks.BAD_VALUE);
        Checks.due("meter(7, 7)", tree.meter(7, 7), Checks.BAD_INDEX);
        Checks.due("meter(-1, 0)", tree.meter(-1, 0), Checks.BAD_INDEX);
        Checks.due("meter(10, 0)", tree.meter(10, 0), Checks.BAD_INDEX);
    }

    private static void promise8() {
        MeterTree tree = Checks.tree(0, 0, 1, 0, 1, 2, 0);
        int[] ofMain = {1, 3, 6};
        for (int index = 0; index < 3; index++) {
            Checks.due("child(0, " + index + ")", tree.child(0, index), ofMain[index]);
        }
        Checks.due("child(0, 3)", tree.child(0, 3), Checks.BAD_INDEX);
        Checks.due("child(0, -1)", tree.child(0, -1), Checks.BAD_INDEX);
        Checks.due("child(1, 0)", tree.child(1, 0), 2);
        Checks.due("child(1, 1)", tree.child(1, 1), 4);
        Checks.due("child(1, 2)", tree.child(1, 2), Checks.BAD_INDEX);
        Checks.due("child(2, 0)", tree.child(2, 0), 5);
        Checks.due("child of a leaf", tree.child(5, 0), Checks.BAD_INDEX);
        Checks.due("child(7, 0)", tree.child(7, 0), Checks.BAD_INDEX);
        Checks.due("child(-1, 0)", tree.child(-1, 0), Checks.BAD_INDEX);
        Checks.due("child(0, MIN)", tree.child(0, Integer.MIN_VALUE), Checks.BAD_INDEX);
        tree.undo();
        Checks.due("child that was undone", tree.child(0, 2), Checks.BAD_INDEX);
    }
}
