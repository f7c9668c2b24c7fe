import java.util.function.ToIntFunction;

/** The sentences of 'Revisions', of 'History, errors', and of the promises 28 to 33. */
final class RevisionSentences {
    private RevisionSentences() {
    }

    static void all() {
        revisions();
        history();
        whatIsRecorded();
        codes();
        order();
        errorsChangeNothing();
        promise28();
        promise29();
        promise30();
        promise31();
        promise32();
        promise33();
    }

    /** Four meters and a number of revisions, whose bills of the main meter are 12, 24, 36 and so on. */
    private static MeterTree revised(int revisions) {
        MeterTree tree = Checks.tree(0, 0, 0, 1);
        for (int revision = 0; revision < revisions; revision++) {
            tree.setAll(0, 0, revision + 1);
            tree.revise();
        }
        return tree;
    }

    private static void revisions() {
        Sentence.section("Revisions");
        Sentence.says("A revision keeps the bills of all meters as they are when it is made.");
        MeterTree tree = Sentence.family();
        int[] bills = {1200, 804, 396, 804};
        tree.setAll(0, 0, 7);
        tree.setMeter(3, 9, 9);
        tree.setRegister(1, 6, 1);
        tree.setRules(2, 0);
        tree.removeReading(2, 4);
        for (int meter = 0; meter < 4; meter++) {
            Sentence.due("billOf(0, " + meter + ")", tree.billOf(0, meter), bills[meter]);
        }
        tree.revise();
        for (int meter = 0; meter < 4; meter++) {
            Sentence.due("billOf(1, " + meter + ")", tree.billOf(1, meter), tree.day(meter, 2));
            Sentence.due("billOf(0, " + meter + ")", tree.billOf(0, meter), bills[meter]);
        }
        tree = tenMeters();
        tree.setAll(0, 0, 17);
        tree.revise();
        for (int meter = 0; meter < 10; meter++) {
            Sentence.due("billOf(0, " + meter + ") of ten", tree.billOf(0, meter), meter == 0 ? 204 : meter < 9 ? 24 : 12);
        }

        Sentence.says("At most 8 revisions are kept, numbered from 0.");
        tree = Checks.tree(0);
        for (int revision = 0; revision < 8; revision++) {
            tree.setAll(0, 0, revision + 1);
            Sentence.due("revise()", tree.revise(), revision);
        }
        Sentence.due("a ninth revise()", tree.revise(), Checks.FULL);
        for (int revision = 0; revision < 8; revision++) {
            Sentence.due("billOf(" + revision + ", 0)", tree.billOf(revision, 0), 12 * (revision + 1));
        }
        Sentence.due("billOf(8, 0)", tree.billOf(8, 0), Checks.BAD_INDEX);
    }

    private static void history() {
        Sentence.section("History, errors");
        Sentence.says("A history of at most 5 states is kept.");
        for (int calls = 0; calls <= 9; calls++) {
            MeterTree tree = new MeterTree();
            for (int call = 0; call < calls; call++) {
                tree.setRules(2 + call, call);
            }
            Sentence.due("states after " + calls + " calls", Checks.historyOf(tree), Math.min(calls, 5));
        }

        Sentence.says("when one more is recorded, the oldest one is dropped.");
        MeterTree tree = new MeterTree();
        for (int spike = 6; spike <= 12; spike++) {
            tree.setRules(spike, 50);
        }
        // The states before the last five calls: those with 11, 10, 9, 8 and 7.
        for (int spike = 11; spike >= 7; spike--) {
            tree.undo();
            tree.setRules(20, 50);
            tree.undo();
            Sentence.due("the spike factor", tree.setRules(19, 50), spike);
            tree.undo();
        }
        Sentence.due("undo() of the oldest", tree.undo(), Checks.BAD_STATE);

        Sentence.says("undo() removes and restores the latest one.");
        tree = new MeterTree();
        long none = tree.digest();
        tree.addMeter(0);
        long one = tree.digest();
        tree.addMeter(0);
        tree.undo();
        Sentence.due("the state before the second call", tree.digest(), one);
        tree.setAll(0, 1, 1);
        tree.setRegister(0, 6, 1);
        tree.undo();
        tree.undo();
        Sentence.due("the same after two more", tree.digest(), one);
        tree.undo();
        Sentence.due("the first state", tree.digest(), none);
        Sentence.due("no more", tree.undo(), Checks.BAD_STATE);
        Sentence.due("the first state", tree.digest(), none);
        // A revision in the place of one that was removed, and both taken back.
        tree = tenWithBills();
        long before = tree.digest();
        tree.clearRevisions();
        tree.setAll(0, 9, 9);
        tree.revise();
        Sentence.due("the other bill of meter 9", tree.billOf(0, 9), 108);
        for (int call = 0; call < 3; call++) {
            tree.undo();
        }
        Sentence.due("the state with the first revision", tree.digest(), before);
    }

    private static void whatIsRecorded() {
        Sentence.says("The methods that are said to be recorded record the whole state (all but the text) before each call that returns no error, even if it changes nothing;");
        for (int call = 0; call < 10; call++) {
            int which = call;
            Sentence.recorded("call " + call, Sentence::family, tree -> recorded(tree, which));
            Sentence.recorded("call " + call + " with seven revisions", () -> revised(7), tree -> recordedAfterText(tree, which));
        }
        for (int call = 0; call < 7; call++) {
            int which = call;
            Sentence.recorded("call " + call + " on the last of ten meters", RevisionSentences::tenWithBills, tree -> changedLast(tree, which));
        }
        ToIntFunction<MeterTree> text = tree -> {
            tree.type('9');
            tree.addMeter(0);
            tree.type('8');
            tree.undo();
            return tree.clearText();
        };
        Sentence.due("the text after undo()", text.applyAsInt(Sentence.family()), 7);
        Sentence.recorded("setMeter(1, 1, 1)", Sentence::pair, tree -> tree.setMeter(1, 1, 1));
        Sentence.recorded("clearRevisions()", MeterTree::new, MeterTree::clearRevisions);
        Sentence.recorded("removeReading(1, 1)", Sentence::pair, tree -> tree.removeReading(1, 1));
        Sentence.onlyAsks("type(48)", Sentence::pair, tree -> tree.type(48) - 1 + tree.clearText() - 1);
        Sentence.onlyAsks("clearText()", Sentence::pair, MeterTree::clearText);
        Sentence.onlyAsks("digest()", Sentence::family, tree -> (int) (tree.digest() & 1));
    }

    private static int recordedAfterText(MeterTree tree, int which) {
        Checks.text(tree, "0@3=9;2@4=-");
        return recorded(tree, which);
    }

    private static MeterTree tenWithBills() {
        MeterTree tree = tenMeters();
        tree.setMeter(9, 3, 7);
        tree.setRegister(9, 4, 77);
        tree.setAll(9, 5, 6);
        tree.setAll(0, 5, 6);
        tree.revise();
        return tree;
    }

    private static int changedLast(MeterTree tree, int which) {
        return switch (which) {
            case 0 -> tree.setMeter(9, 99, 98);
            case 1 -> tree.setRegister(9, 6, 9);
            case 2 -> tree.setReading(9, 0, 1);
            case 3 -> tree.setAll(9, 1, 1);
            case 4 -> tree.removeReading(9, 12);
            case 5 -> tree.revise();
            default -> tree.clearRevisions();
        };
    }

    private static int recorded(MeterTree tree, int which) {
        return switch (which) {
            case 0 -> tree.addMeter(2);
            case 1 -> tree.setMeter(1, 99, 98);
            case 2 -> tree.setRegister(1, 6, 9);
            case 3 -> tree.setRules(8, 80);
            case 4 -> tree.setReading(2, 12, 1);
            case 5 -> tree.setAll(1, 1, 1);
            case 6 -> tree.removeReading(0, 7);
            case 7 -> tree.revise();
            case 8 -> tree.clearRevisions();
            default -> tree.load();
        };
    }

    private static void codes() {
        Sentence.says("NONE (-2000000000) stands for \"there is none\".");
        MeterTree tree = Sentence.pair();
        Sentence.due("NONE", MeterTree.NONE, -2000000000);
        Sentence.due("meter(0, 0), its parent", tree.meter(0, 0), -2000000000);
        Sentence.due("reading(1, 0)", tree.reading(1, 0), -2000000000);
        Sentence.due("loss(1, 0)", tree.loss(1, 0), -2000000000);

        Sentence.says("The error codes are BAD_INDEX (-2000000001): there is no such meter, interval, boundary, child, or revision;");
        Sentence.due("BAD_INDEX", MeterTree.BAD_INDEX, -2000000001);
        Sentence.due("no meter", tree.meter(2, 0), -2000000001);
        Sentence.due("no interval", tree.raw(0, 12), -2000000001);
        Sentence.due("no boundary", tree.reading(0, 13), -2000000001);
        Sentence.due("no child", tree.child(0, 1), -2000000001);
        Sentence.due("no revision", tree.billOf(0, 0), -2000000001);

        Sentence.says("BAD_VALUE (-2000000002): another argument is out of its range;");
        Sentence.due("BAD_VALUE", MeterTree.BAD_VALUE, -2000000002);
        Sentence.due("setRules(1, 0)", tree.setRules(1, 0), -2000000002);
        Sentence.due("type(256)", tree.type(256), -2000000002);

        Sentence.says("BAD_STATE (-2000000003): the call is not possible, as told;");
        Sentence.due("BAD_STATE", MeterTree.BAD_STATE, -2000000003);
        Sentence.due("load()", tree.load(), -2000000003);
        Sentence.due("undo()", new MeterTree().undo(), -2000000003);
        Sentence.due("revise()", new MeterTree().revise(), -2000000003);

        Sentence.says("FULL (-2000000004): there is no room.");
        Sentence.due("FULL", MeterTree.FULL, -2000000004);
        Sentence.due("a ninth revise()", revised(8).revise(), -2000000004);

        Sentence.says("The constants:", "`NONE = -2000000000, BAD_INDEX = -2000000001, BAD_VALUE = -2000000002, BAD_STATE = -2000000003, FULL = -2000000004`: NONE: there is none.", "The others are error codes.");
        int[] constants = {MeterTree.NONE, MeterTree.BAD_INDEX, MeterTree.BAD_VALUE, MeterTree.BAD_STATE, MeterTree.FULL};
        for (int place = 0; place < 5; place++) {
            Sentence.due("constant " + place, constants[place], -2000000000 - place);
        }
        // FaceTest compares the constructor and the methods with the document's face.
        Sentence.aside("The constructor and the methods follow, a promise each: the signature, then what it does.");
    }

    private static MeterTree tenMeters() {
        return Checks.tree(0, 0, 0, 0, 0, 0, 0, 0, 0, 0);
    }

    private static MeterTree fullText() {
        MeterTree tree = Sentence.pair();
        Checks.text(tree, " ".repeat(120));
        return tree;
    }

    private static void order() {
        Sentence.says("If several apply to a call, the first one in this order is returned;");
        Sentence.refused("addMeter(10): BAD_INDEX, FULL", RevisionSentences::tenMeters, tree -> tree.addMeter(10), Checks.BAD_INDEX);
        Sentence.refused("setMeter(2, 0, 0): BAD_INDEX, BAD_VALUE", Sentence::pair, tree -> tree.setMeter(2, 0, 0), Checks.BAD_INDEX);
        Sentence.refused("setRegister(2, 0, 0): BAD_INDEX, BAD_VALUE", Sentence::pair, tree -> tree.setRegister(2, 0, 0), Checks.BAD_INDEX);
        Sentence.refused("meter(2, 7): BAD_INDEX, BAD_VALUE", Sentence::pair, tree -> tree.meter(2, 7), Checks.BAD_INDEX);
        Sentence.refused("setReading(0, 13, -1): BAD_INDEX, BAD_VALUE", Sentence::pair, tree -> tree.setReading(0, 13, -1), Checks.BAD_INDEX);
        Sentence.refused("setReading(2, 0, -1): BAD_INDEX, BAD_VALUE", Sentence::pair, tree -> tree.setReading(2, 0, -1), Checks.BAD_INDEX);
        Sentence.refused("setAll(2, -1, -1): BAD_INDEX, BAD_VALUE", Sentence::pair, tree -> tree.setAll(2, -1, -1), Checks.BAD_INDEX);
        Sentence.refused("day(2, 4): BAD_INDEX, BAD_VALUE", Sentence::pair, tree -> tree.day(2, 4), Checks.BAD_INDEX);
        Sentence.refused("nextFault(2, 12): BAD_INDEX, BAD_VALUE", Sentence::pair, tree -> tree.nextFault(2, 12), Checks.BAD_INDEX);
        Sentence.refused("imbalanceWith(2, 0, 8): BAD_INDEX, BAD_VALUE", Sentence::pair, tree -> tree.imbalanceWith(2, 0, 8), Checks.BAD_INDEX);
        Sentence.refused("imbalanceWith(0, 1, 8): BAD_INDEX, BAD_VALUE", Sentence::pair, tree -> tree.imbalanceWith(0, 1, 8), Checks.BAD_INDEX);
        Sentence.refused("type(256): BAD_VALUE, FULL", RevisionSentences::fullText, tree -> tree.type(256), Checks.BAD_VALUE);

        Sentence.says("NONE is returned only if no error applies.");
        Sentence.due("day(1, 4) of a leaf", Sentence.pair().day(1, 4), Checks.BAD_VALUE);
        Sentence.due("loss(1, 12) of a leaf", Sentence.pair().loss(1, 12), Checks.BAD_INDEX);
        Sentence.due("balance(1, -1) of a leaf", Sentence.pair().balance(1, -1), Checks.BAD_INDEX);
        Sentence.due("nextFault(1, 12) of a leaf", Sentence.pair().nextFault(1, 12), Checks.BAD_VALUE);
        Sentence.due("nextFault(1, -2) of a leaf", Sentence.pair().nextFault(1, -2), Checks.BAD_VALUE);
        Sentence.due("reading(1, 13) without readings", Sentence.pair().reading(1, 13), Checks.BAD_INDEX);
        Sentence.due("removeReading(1, 13) without readings", Sentence.pair().removeReading(1, 13), Checks.BAD_INDEX);
        Sentence.due("setReading(1, 0, -1) without readings", Sentence.pair().setReading(1, 0, -1), Checks.BAD_VALUE);
        Sentence.due("raw(1, 12) without readings", Sentence.pair().raw(1, 12), Checks.BAD_INDEX);
        Sentence.due("billOf(8, 4) of no meter", revised(8).billOf(8, 3), Checks.BAD_INDEX);
    }

    private static MeterTree faulty() {
        MeterTree tree = Sentence.family();
        Checks.text(tree, "0@3=9;0@13=1");
        return tree;
    }

    private static void errorsChangeNothing() {
        Sentence.says("A call that returns an error changes nothing.");
        // Each other refused call is looked at with the error of its promise.
        Sentence.refused("load() of a fault behind a good reading", RevisionSentences::faulty, MeterTree::load, Checks.BAD_STATE);
        Sentence.refused("load() of an empty text", Sentence::pair, MeterTree::load, Checks.BAD_STATE);
        Sentence.refused("undo()", MeterTree::new, MeterTree::undo, Checks.BAD_STATE);
        Sentence.refused("revise() without meters", MeterTree::new, MeterTree::revise, Checks.BAD_STATE);
        Sentence.refused("revise() with eight", () -> revised(8), MeterTree::revise, Checks.FULL);
        Sentence.refused("addMeter(0) with ten", RevisionSentences::tenMeters, tree -> tree.addMeter(0), Checks.FULL);
        Sentence.refused("type(48) at 120", RevisionSentences::fullText, tree -> tree.type(48), Checks.FULL);
        Sentence.refused("type(-1)", Sentence::family, tree -> tree.type(-1), Checks.BAD_VALUE);
    }

    private static void promise28() {
        Sentence.section("Promise 28: revise");
        Sentence.says("Makes a revision.");
        MeterTree tree = Sentence.family();
        tree.revise();
        Sentence.due("revisions()", tree.revisions(), 2);
        int[] bills = {1200, 804, 396, 804};
        for (int meter = 0; meter < 4; meter++) {
            Sentence.due("billOf(1, " + meter + ")", tree.billOf(1, meter), bills[meter]);
        }

        Sentence.says("Recorded.");
        Sentence.recorded("revise()", () -> Checks.tree(0), MeterTree::revise);
        Sentence.recorded("revise() in the place of one that was removed", () -> {
            MeterTree one = Sentence.family();
            one.clearRevisions();
            one.setAll(0, 0, 5);
            return one;
        }, MeterTree::revise);

        Sentence.says("Returns its number;");
        tree = Checks.tree(0);
        for (int revision = 0; revision < 8; revision++) {
            Sentence.due("revise()", tree.revise(), revision);
        }
        tree.undo();
        Sentence.due("revise() after undo()", tree.revise(), 7);
        tree.clearRevisions();
        Sentence.due("revise() after clearRevisions()", tree.revise(), 0);

        Sentence.says("BAD_STATE if there are no meters;");
        Sentence.refused("revise()", MeterTree::new, MeterTree::revise, Checks.BAD_STATE);
        tree = Checks.tree(0);
        tree.undo();
        Sentence.due("revise() after undo() of the only meter", tree.revise(), Checks.BAD_STATE);

        Sentence.says("FULL if there are 8 revisions.");
        Sentence.due("revise() with seven", revised(7).revise(), 7);
        Sentence.refused("revise() with eight", () -> revised(8), MeterTree::revise, Checks.FULL);
    }

    private static void promise29() {
        Sentence.section("Promise 29: revisions");
        Sentence.says("Returns the number of revisions.", "Returns the number.");
        MeterTree tree = new MeterTree();
        Sentence.due("revisions() at first", tree.revisions(), 0);
        tree.revise();
        Sentence.due("revisions() after a revise() that was refused", tree.revisions(), 0);
        tree.addMeter(0);
        for (int revisions = 0; revisions < 8; revisions++) {
            Sentence.due("revisions()", tree.revisions(), revisions);
            tree.revise();
        }
        Sentence.due("revisions()", tree.revisions(), 8);
        tree.revise();
        Sentence.due("revisions() after a ninth", tree.revisions(), 8);
        tree.undo();
        Sentence.due("revisions() after undo()", tree.revisions(), 7);
        tree.clearRevisions();
        Sentence.due("revisions() after clearRevisions()", tree.revisions(), 0);
        Sentence.onlyAsks("revisions()", Sentence::family, MeterTree::revisions);
    }

    /** Revision 0 has the meters 0 and 1, revision 1 also meter 2, and meter 3 came behind them. */
    private static MeterTree grown() {
        MeterTree tree = Checks.tree(0, 0);
        tree.setAll(0, 0, 10);
        tree.revise();
        tree.addMeter(0);
        tree.setAll(0, 0, 26);
        tree.revise();
        tree.addMeter(0);
        return tree;
    }

    private static void promise30() {
        Sentence.section("Promise 30: billOf");
        Sentence.says("Returns a bill of a revision.", "Returns the bill;", "`revision`: number of the revision");
        MeterTree tree = grown();
        int[][] bills = {{120, 120, Checks.NONE, Checks.NONE}, {312, 156, 156, Checks.NONE}};
        for (int revision = 0; revision < 2; revision++) {
            for (int meter = 0; meter < 2 + revision; meter++) {
                Sentence.due("billOf(" + revision + ", " + meter + ")", tree.billOf(revision, meter), bills[revision][meter]);
            }
        }
        Sentence.onlyAsks("billOf(0, 3)", Sentence::family, one -> one.billOf(0, 3));

        Sentence.says("NONE if there was no such meter when it was made;");
        Sentence.due("billOf(0, 2)", tree.billOf(0, 2), Checks.NONE);
        Sentence.due("billOf(0, 3)", tree.billOf(0, 3), Checks.NONE);
        Sentence.due("billOf(1, 3)", tree.billOf(1, 3), Checks.NONE);
        // A revision with fewer meters in the place of one with more.
        tree = Checks.tree(0, 0);
        tree.addMeter(0);
        tree.revise();
        tree.undo();
        tree.undo();
        tree.revise();
        tree.addMeter(0);
        Sentence.due("billOf(0, 2), made anew", tree.billOf(0, 2), Checks.NONE);
        Sentence.due("billOf(0, 1), made anew", tree.billOf(0, 1), 0);

        Sentence.says("BAD_INDEX if there is no such revision, or no such meter now.", "`meter`: number of the meter");
        for (int revision : Sentence.outside(0, 1)) {
            Sentence.refused("billOf(" + revision + ", 0)", RevisionSentences::grown, one -> one.billOf(revision, 0), Checks.BAD_INDEX);
        }
        for (int meter : Sentence.outside(0, 3)) {
            Sentence.refused("billOf(0, " + meter + ")", RevisionSentences::grown, one -> one.billOf(0, meter), Checks.BAD_INDEX);
        }
        Sentence.refused("billOf(0, 0) without revisions", Sentence::pair, one -> one.billOf(0, 0), Checks.BAD_INDEX);
        Sentence.refused("billOf(0, 0) without meters", MeterTree::new, one -> one.billOf(0, 0), Checks.BAD_INDEX);
        tree = grown();
        tree.undo();
        Sentence.due("billOf(0, 3), meter 3 undone", tree.billOf(0, 3), Checks.BAD_INDEX);
        tree.clearRevisions();
        Sentence.due("billOf(0, 0), revisions removed", tree.billOf(0, 0), Checks.BAD_INDEX);
    }

    private static void promise31() {
        Sentence.section("Promise 31: changed");
        Sentence.says("Returns how a bill changed from one revision to another one.", "Returns its bill in the other one minus that in the one",
            "`from`: number of a revision", "`to`: number of a revision");
        MeterTree tree = grown();
        Sentence.due("changed(0, 1, 0)", tree.changed(0, 1, 0), 192);
        Sentence.due("changed(1, 0, 0)", tree.changed(1, 0, 0), -192);
        Sentence.due("changed(0, 1, 1)", tree.changed(0, 1, 1), 36);
        Sentence.due("changed(1, 1, 1)", tree.changed(1, 1, 1), 0);
        MeterTree eight = revised(8);
        Sentence.due("changed(0, 7, 0)", eight.changed(0, 7, 0), 84);
        Sentence.due("changed(7, 2, 0)", eight.changed(7, 2, 0), -60);
        Sentence.onlyAsks("changed(0, 1, 0)", RevisionSentences::grown, one -> one.changed(0, 1, 0));

        // 'its bill .. minus that ..' is what the 0 stands for: each of the two for itself.
        Sentence.says("(0 for a meter that there was not);");
        Sentence.due("changed(0, 1, 2), there in 1 alone", tree.changed(0, 1, 2), 156);
        Sentence.due("changed(1, 0, 2), there in 1 alone", tree.changed(1, 0, 2), -156);
        Sentence.due("changed(0, 0, 2), not there", tree.changed(0, 0, 2), 0);
        Sentence.due("changed(0, 1, 3), not there", tree.changed(0, 1, 3), 0);
        Sentence.due("changed(1, 0, 3), not there", tree.changed(1, 0, 3), 0);

        Sentence.says("BAD_INDEX if there is no such revision (either one) or meter.", "`meter`: number of the meter");
        for (int revision : Sentence.outside(0, 1)) {
            Sentence.refused("changed(" + revision + ", 0, 0)", RevisionSentences::grown, one -> one.changed(revision, 0, 0), Checks.BAD_INDEX);
            Sentence.refused("changed(0, " + revision + ", 0)", RevisionSentences::grown, one -> one.changed(0, revision, 0), Checks.BAD_INDEX);
            Sentence.refused("changed(" + revision + ", " + revision + ", 3)", RevisionSentences::grown, one -> one.changed(revision, revision, 3), Checks.BAD_INDEX);
        }
        for (int meter : Sentence.outside(0, 3)) {
            Sentence.refused("changed(0, 1, " + meter + ")", RevisionSentences::grown, one -> one.changed(0, 1, meter), Checks.BAD_INDEX);
        }
        Sentence.refused("changed(0, 0, 0) without revisions", Sentence::pair, one -> one.changed(0, 0, 0), Checks.BAD_INDEX);
    }

    private static void promise32() {
        Sentence.section("Promise 32: clearRevisions");
        Sentence.says("Removes all revisions.");
        MeterTree tree = revised(8);
        tree.clearRevisions();
        Sentence.due("revisions()", tree.revisions(), 0);
        Sentence.due("billOf(0, 0)", tree.billOf(0, 0), Checks.BAD_INDEX);
        Sentence.due("changed(0, 0, 0)", tree.changed(0, 0, 0), Checks.BAD_INDEX);
        Sentence.due("meters()", tree.meters(), 4);
        Sentence.due("reading(0, 12)", tree.reading(0, 12), 96);

        Sentence.says("Recorded.");
        Sentence.recorded("clearRevisions()", () -> revised(8), MeterTree::clearRevisions);
        Sentence.recorded("clearRevisions() that removes nothing", MeterTree::new, MeterTree::clearRevisions);
        tree.undo();
        for (int revision = 0; revision < 8; revision++) {
            Sentence.due("billOf(" + revision + ", 0) after undo()", tree.billOf(revision, 0), 12 * (revision + 1));
        }

        Sentence.says("Returns how many there were.");
        Sentence.due("none", new MeterTree().clearRevisions(), 0);
        for (int revisions = 0; revisions <= 8; revisions++) {
            tree = revised(revisions);
            Sentence.due("clearRevisions()", tree.clearRevisions(), revisions);
            Sentence.due("clearRevisions() again", tree.clearRevisions(), 0);
        }
    }

    private static void promise33() {
        Sentence.section("Promise 33: undo");
        Sentence.says("Removes and restores the latest state of the history.");
        MeterTree tree = Checks.tree(0, 0);
        tree.setAll(0, 0, 1);
        long before = tree.digest();
        tree.setRegister(0, 4, 4);
        tree.undo();
        Sentence.due("the readings are back", tree.digest(), before);
        Sentence.due("the energies are back", tree.day(1, 2), 12);
        tree.undo();
        Sentence.due("they are gone", tree.reading(0, 0), Checks.NONE);
        tree.undo();
        Sentence.due("one meter", tree.meters(), 1);

        Sentence.says("Returns the number of states that are left in it;");
        tree = revised(8);
        for (int left = 4; left >= 0; left--) {
            Sentence.due("undo()", tree.undo(), left);
        }
        tree.setRules(2, 2);
        tree.setRules(3, 3);
        Sentence.due("undo() of the second", tree.undo(), 1);
        tree.setRules(4, 4);
        Sentence.due("undo() of another second", tree.undo(), 1);
        Sentence.due("undo() of the first", tree.undo(), 0);

        Sentence.says("BAD_STATE if it is empty.");
        Sentence.due("undo() once more", tree.undo(), Checks.BAD_STATE);
        Sentence.refused("undo() of a new object", MeterTree::new, MeterTree::undo, Checks.BAD_STATE);
        Sentence.refused("undo() after undo() of all", () -> {
            MeterTree one = revised(8);
            Checks.historyOf(one);
            return one;
        }, MeterTree::undo, Checks.BAD_STATE);
    }
}
