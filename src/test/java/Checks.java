/** What all tests share: a call's answer against the one that is due, and the exit code at the end. */
final class Checks {
    static final int NONE = -2000000000, BAD_INDEX = -2000000001, BAD_VALUE = -2000000002, BAD_STATE = -2000000003, FULL = -2000000004;

    private static int wrong = 0;
    private static int made = 0;

    private Checks() {
    }

    static void due(String call, long got, long want) {
        made++;
        if (got != want) {
            wrong++;
            System.out.println(call + " answered " + got + ", due is " + want);
        }
    }

    static void end(String name) {
        System.out.println(name + ": " + made + " checks, " + wrong + " wrong");
        if (wrong != 0 || made == 0) {
            System.exit(1);
        }
    }

    /** A tree whose meters have the given parents; the first one is for meter 0. */
    static MeterTree tree(int... parents) {
        MeterTree tree = new MeterTree();
        for (int parent : parents) {
            tree.addMeter(parent);
        }
        return tree;
    }

    /** Sets the readings of a meter; -1 stands for none. */
    static void readings(MeterTree tree, int meter, int... values) {
        for (int boundary = 0; boundary < values.length; boundary++) {
            if (values[boundary] >= 0) {
                tree.setReading(meter, boundary, values[boundary]);
            } else {
                tree.removeReading(meter, boundary);
            }
        }
    }

    static void text(MeterTree tree, String text) {
        tree.clearText();
        for (int at = 0; at < text.length(); at++) {
            tree.type(text.charAt(at));
        }
    }

    /** How many states the history holds; empties it. */
    static int historyOf(MeterTree tree) {
        int states = 0;
        while (tree.undo() >= 0) {
            states++;
        }
        return states;
    }
}
