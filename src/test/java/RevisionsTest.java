/** Promises 28 to 33: revisions and the history. */
public final class RevisionsTest {
    public static void main(String[] args) {
        promise28();
        promise29();
        promise30();
        promise31();
        promise32();
        promise33();
        undoOfEachCall();
        undoOfRevisions();
        whatIsRecorded();
        Checks.end("RevisionsTest");
    }

    private static void promise28() {
        MeterTree tree = new MeterTree();
        Checks.due("no meters", tree.revise(), Checks.BAD_STATE);
        Checks.due("an error is not recorded", tree.undo(), Checks.BAD_STATE);
        tree.addMeter(0);
        for (int number = 0; number < 8; number++) {
            Checks.due("revise", tree.revise(), number);
        }
        Checks.due("full", tree.revise(), Checks.FULL);
        Checks.due("revisions", tree.revisions(), 8);
        tree.undo();
        Checks.due("again", tree.revise(), 7);
    }

    private static void promise29() {
        MeterTree tree = new MeterTree();
        Checks.due("none", tree.revisions(), 0);
        tree.revise();
        Checks.due("none", tree.revisions(), 0);
        tree.addMeter(0);
        tree.revise();
        tree.revise();
        Checks.due("two", tree.revisions(), 2);
        tree.undo();
        Checks.due("one", tree.revisions(), 1);
        tree.clearRevisions();
        Checks.due("cleared", tree.revisions(), 0);
    }

    private static void promise30() {
        MeterTree tree = Checks.tree(0, 0, 0);
        tree.setAll(0, 0, 10);
        tree.revise();
        tree.setAll(0, 0, 20);
        tree.addMeter(1);
        tree.revise();
        int[][] due = {{120, 60, 60, Checks.NONE}, {240, 120, 120, 120}};
        for (int revision = 0; revision < 2; revision++) {
            for (int meter = 0; meter < 4; meter++) {
                Checks.due("billOf(" + revision + ", " + meter + ")", tree.billOf(revision, meter), due[revision][meter]);
            }
        }
        Checks.due("no revision", tree.billOf(2, 0), Checks.BAD_INDEX);
        Checks.due("no revision", tree.billOf(-1, 0), Checks.BAD_INDEX);
        Checks.due("no meter", tree.billOf(0, 4), Checks.BAD_INDEX);
        Checks.due("no meter", tree.billOf(0, -1), Checks.BAD_INDEX);
        Checks.due("no meter", tree.billOf(0, 10), Checks.BAD_INDEX);
        tree.undo();
        tree.undo();
        Checks.due("no meter now", tree.billOf(0, 3), Checks.BAD_INDEX);
        Checks.due("no revision now", tree.billOf(1, 0), Checks.BAD_INDEX);
        // A revision in the place of one with more meters.
        tree.addMeter(0);
        tree.revise();
        tree.undo();
        tree.undo();
        tree.revise();
        tree.addMeter(0);
        Checks.due("there was no meter 3", tree.billOf(1, 3), Checks.NONE);
    }

    private static void promise31() {
        MeterTree tree = Checks.tree(0, 0, 0);
        tree.setAll(0, 0, 10);
        tree.revise();
        tree.setAll(0, 0, 26);
        tree.addMeter(1);
        tree.revise();
        tree.addMeter(1);
        Checks.due("changed(0, 1, 0)", tree.changed(0, 1, 0), 192);
        Checks.due("changed(1, 0, 0)", tree.changed(1, 0, 0), -192);
        Checks.due("changed(1, 1, 0)", tree.changed(1, 1, 0), 0);
        Checks.due("changed(0, 1, 2)", tree.changed(0, 1, 2), 96);
        // The bill counts as 0 in the revision in which the meter was not.
        Checks.due("changed(0, 1, 3)", tree.changed(0, 1, 3), 156);
        Checks.due("changed(1, 0, 3)", tree.changed(1, 0, 3), -156);
        Checks.due("changed(0, 1, 4)", tree.changed(0, 1, 4), 0);
        Checks.due("no meter", tree.changed(0, 1, 5), Checks.BAD_INDEX);
        Checks.due("no meter", tree.changed(0, 1, -1), Checks.BAD_INDEX);
        Checks.due("no revision", tree.changed(2, 0, 0), Checks.BAD_INDEX);
        Checks.due("no revision", tree.changed(0, 2, 0), Checks.BAD_INDEX);
        Checks.due("no revision", tree.changed(-1, 0, 0), Checks.BAD_INDEX);
        Checks.due("no revision", tree.changed(0, -1, 0), Checks.BAD_INDEX);
    }

    private static void promise32() {
        MeterTree tree = new MeterTree();
        Checks.due("nothing to clear", tree.clearRevisions(), 0);
        Checks.due("it is recorded", tree.undo(), 0);
        tree.addMeter(0);
        tree.setAll(0, 0, 1);
        tree.revise();
        tree.revise();
        Checks.due("two", tree.clearRevisions(), 2);
        Checks.due("none", tree.billOf(0, 0), Checks.BAD_INDEX);
        Checks.due("numbers begin anew", tree.revise(), 0);
        tree.undo();
        tree.undo();
        Checks.due("both are back", tree.revisions(), 2);
        Checks.due("with their bills", tree.billOf(1, 0), 12);
    }

    private static void promise33() {
        MeterTree tree = new MeterTree();
        Checks.due("empty", tree.undo(), Checks.BAD_STATE);
        long[] digests = new long[9];
        tree.addMeter(0);
        for (int step = 0; step < 9; step++) {
            digests[step] = tree.digest();
            tree.setAll(0, step, step + 1);
        }
        for (int left = 4; left >= 0; left--) {
            Checks.due("undo", tree.undo(), left);
            Checks.due("state", tree.digest(), digests[left + 4]);
        }
        long before = tree.digest();
        Checks.due("empty", tree.undo(), Checks.BAD_STATE);
        Checks.due("nothing changed", tree.digest(), before);
        tree.setRules(9, 9);
        tree.setRules(8, 8);
        Checks.due("undo", tree.undo(), 1);
        Checks.due("rules are back", tree.setRules(7, 7), 9);
        tree.type('0');
        Checks.due("undo", tree.undo(), 1);
        Checks.due("the text stays", tree.clearText(), 1);
    }

    /** Each recorded call is taken back wholly, whatever it changed. */
    private static void undoOfEachCall() {
        for (int revision = 0; revision <= 8; revision++) {
            MeterTree tree = furnished(revision);
            for (int which = 0; which < 10; which++) {
                long before = tree.digest();
                int bill = tree.billOf(0, 1);
                int depth = tree.meter(2, 6);
                recorded(tree, which);
                Checks.due("call " + which + " changes something", tree.digest() != before || revision == 8 || which == 8 ? 1 : 0, 1);
                boolean full = which == 7 && revision == 8;
                if (!full) {
                    Checks.due("undo of call " + which, tree.undo() >= 0 ? 1 : 0, 1);
                }
                Checks.due("undone call " + which, tree.digest(), before);
                Checks.due("bill, undone call " + which, tree.billOf(0, 1), bill);
                Checks.due("depth, undone call " + which, tree.meter(2, 6), depth);
            }
        }
    }

    private static MeterTree furnished(int revisions) {
        MeterTree tree = Checks.tree(0, 0, 1);
        for (int meter = 0; meter < 3; meter++) {
            tree.setMeter(meter, 3 + meter, 7 + meter);
            tree.setRegister(meter, 4 + meter % 2, 100 + meter);
            tree.setAll(meter, 10 + meter, 20 + meter);
        }
        tree.setRules(7, 70);
        Checks.text(tree, "0@3=9;2@4=-");
        for (int revision = 0; revision < revisions; revision++) {
            tree.revise();
        }
        return tree;
    }

    private static void recorded(MeterTree tree, int which) {
        switch (which) {
            case 0 -> tree.addMeter(2);
            case 1 -> tree.setMeter(1, 99, 98);
            case 2 -> tree.setRegister(1, 6, 9);
            case 3 -> tree.setRules(8, 80);
            case 4 -> tree.setReading(2, 12, 1);
            case 5 -> tree.setAll(1, 1, 1);
            case 6 -> tree.removeReading(0, 7);
            case 7 -> tree.revise();
            case 8 -> tree.clearRevisions();
            default -> tree.load();
        }
    }

    /** The bills of revisions come back also where later ones stood in their place; a parent too. */
    private static void undoOfRevisions() {
        MeterTree tree = Checks.tree(0, 0);
        tree.setAll(0, 0, 1);
        tree.revise();
        tree.clearRevisions();
        tree.setAll(0, 0, 2);
        tree.revise();
        Checks.due("bill", tree.billOf(0, 1), 24);
        for (int call = 0; call < 3; call++) {
            tree.undo();
        }
        Checks.due("bill of the one before", tree.billOf(0, 1), 12);
        tree = Checks.tree(0, 0);
        tree.addMeter(1);
        tree.undo();
        tree.addMeter(0);
        Checks.due("another parent", tree.meter(2, 0), 0);
        tree.setMeter(2, 5, 6);
        tree.setRegister(2, 5, 7);
        tree.undo();
        Checks.due("limit is back", tree.meter(2, 3), 10000);
        tree.undo();
        Checks.due("multiplier is back", tree.meter(2, 1), 1);
        Checks.due("weight is back", tree.meter(2, 4), 1);
        tree.undo();
        tree.undo();
        Checks.due("one meter", tree.meters(), 1);
        // The history holds the last two meters and three calls that change nothing of them.
        tree = Checks.tree(0, 0, 1, 2, 3);
        for (int call = 0; call < 3; call++) {
            tree.setRules(2, 2);
        }
        for (int call = 0; call < 5; call++) {
            tree.undo();
        }
        Checks.due("three meters", tree.meters(), 3);
        tree.addMeter(0);
        tree.addMeter(0);
        Checks.due("parents anew", tree.meter(4, 0), 0);
    }

    /** Each call that is not said to be recorded leaves the history as it is. */
    private static void whatIsRecorded() {
        MeterTree tree = Checks.tree(0);
        tree.setAll(0, 0, 1);
        tree.addMeter(0);
        Checks.text(tree, "0@0=1");
        tree.textFault();
        tree.digest();
        tree.meters();
        tree.meter(0, 0);
        tree.child(0, 0);
        tree.reading(0, 0);
        tree.raw(0, 0);
        tree.status(0, 0);
        tree.energy(0, 0);
        tree.quality(0, 0);
        tree.day(0, 0);
        tree.loss(0, 0);
        tree.balance(0, 0);
        tree.nextFault(0, 0);
        tree.billed(0, 0);
        tree.part(0, 0);
        tree.shareBits(0);
        tree.share(0);
        tree.imbalance(0);
        tree.imbalanceWith(0, 0, 0);
        tree.suspect(0);
        tree.revisions();
        tree.billOf(0, 0);
        tree.changed(0, 0, 0);
        tree.clearText();
        tree.load();
        Checks.due("history", Checks.historyOf(tree), 3);
        Checks.due("no meters are left", tree.meters(), 0);
    }
}
