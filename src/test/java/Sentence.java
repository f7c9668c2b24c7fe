import java.io.IOException;
import java.util.ArrayList;
import java.util.List;
import java.util.function.Supplier;
import java.util.function.ToIntFunction;

/** The sentence of the document whose calls are being looked at. */
final class Sentence {
    private static Document document;
    private static String heading = "";
    private static String quotation = "";
    private static int checks = 1;
    private static int sentences = 0;

    private Sentence() {
    }

    static void open() throws IOException {
        document = new Document();
    }

    static void section(String name) {
        heading = name;
    }

    /** Begins the calls that hold these words of the section. */
    static void says(String... words) {
        leave();
        sentences++;
        quotation = heading + ", '" + words[0] + "': ";
        checks = 0;
        for (String each : words) {
            Checks.due("the document says under '" + heading + "': " + each, document.quote(heading, each) ? 1 : 0, 1);
        }
    }

    /** Words of the section that no call can hold or break. */
    static void aside(String words) {
        Checks.due("the document says under '" + heading + "': " + words, document.quote(heading, words) ? 1 : 0, 1);
    }

    static void due(String call, long got, long want) {
        checks++;
        Checks.due(quotation + call, got, want);
    }

    /** The call answers an error, and an object that was asked is as one that was not. */
    static void refused(String call, Supplier<MeterTree> maker, ToIntFunction<MeterTree> asked, int error) {
        MeterTree tree = maker.get();
        due(call, asked.applyAsInt(tree), error);
        same(call + " changes nothing", tree, maker.get());
    }

    /** The call answers no error, and an object that was asked is as one that was not. */
    static void onlyAsks(String call, Supplier<MeterTree> maker, ToIntFunction<MeterTree> asked) {
        MeterTree tree = maker.get();
        due(call + " is no error", isError(asked.applyAsInt(tree)) ? 1 : 0, 0);
        same(call + " changes nothing", tree, maker.get());
    }

    /** The call answers no error, and the history has the state before it, and those before that one. */
    static void recorded(String call, Supplier<MeterTree> maker, ToIntFunction<MeterTree> asked) {
        MeterTree tree = maker.get();
        MeterTree twin = maker.get();
        due(call + " is no error", isError(asked.applyAsInt(tree)) ? 1 : 0, 0);
        List<Long> states = states(tree);
        List<Long> before = states(twin);
        int left = Math.min(before.size(), 5);
        due(call + ", then states that undo() meets", states.size() - 1, left);
        for (int back = 0; back < left; back++) {
            due(call + ", then undo() " + (back + 1) + " times", states.get(back + 1), before.get(back));
        }
    }

    private static boolean isError(int answer) {
        return answer <= Checks.BAD_INDEX && answer >= Checks.FULL;
    }

    /** The digests of the state and of all that undo() brings back, the latest first. */
    private static List<Long> states(MeterTree tree) {
        List<Long> digests = new ArrayList<>();
        digests.add(tree.digest());
        while (tree.undo() != Checks.BAD_STATE && digests.size() < 9) {
            digests.add(tree.digest());
        }
        return digests;
    }

    static void same(String call, MeterTree tree, MeterTree twin) {
        due(call + ", textFault()", tree.textFault(), twin.textFault());
        List<Long> states = states(tree);
        List<Long> due = states(twin);
        due(call + ", states that undo() meets", states.size(), due.size());
        for (int back = 0; back < due.size() && back < states.size(); back++) {
            due(call + ", undo() " + back + " times", states.get(back), due.get(back));
        }
        due(call + ", clearText()", tree.clearText(), twin.clearText());
    }

    private static void leave() {
        Checks.due(quotation + "is held by calls", checks > 0 ? 1 : 0, 1);
    }

    /** Each word of the promises and of their description has been quoted by a test. */
    static void close(String name) {
        leave();
        for (String words : document.unquoted()) {
            Checks.due("no test quotes these words of the document: " + words, 0, 1);
        }
        System.out.println(name + ": " + sentences + " sentences");
        Checks.end(name);
    }

    /** The ints next to a range, and some far from it. */
    static int[] outside(int low, int high) {
        return new int[] {low - 1, high + 1, -low - 100, high + 1000000, Checks.NONE, Checks.BAD_INDEX, Integer.MIN_VALUE, Integer.MAX_VALUE};
    }

    /** Four meters with readings and a text, with a full history: 100 = 60 + 30 and a loss, 60 = 55 and a loss. */
    static MeterTree family() {
        MeterTree tree = Checks.tree(0, 0, 0, 1);
        Checks.text(tree, "0@3=7");
        tree.setAll(0, 99990, 100);
        tree.setAll(1, 0, 60);
        tree.setAll(2, 500, 30);
        tree.setAll(3, 0, 55);
        tree.revise();
        return tree;
    }

    /** Two meters without readings, and a history of two states. */
    static MeterTree pair() {
        return Checks.tree(0, 0);
    }

    /** One meter, whose intervals have these raw values, from 0 on; the reading at boundary 0 is 0. */
    static MeterTree alone(int digits, int limit, int... raws) {
        MeterTree tree = Checks.tree(0);
        tree.setRegister(0, digits, limit);
        raws(tree, 0, raws);
        return tree;
    }

    static void raws(MeterTree tree, int meter, int... raws) {
        int span = new int[] {1000, 10000, 100000, 1000000}[tree.meter(meter, 2) - 3];
        int value = 0;
        tree.setReading(meter, 0, value);
        for (int interval = 0; interval < raws.length; interval++) {
            value = (value + raws[interval]) % span;
            tree.setReading(meter, interval + 1, value);
        }
    }

    static void dueEnergies(MeterTree tree, int... energies) {
        for (int interval = 0; interval < energies.length; interval++) {
            due("energy(0, " + interval + ")", tree.energy(0, interval), energies[interval]);
        }
    }

    static void dueQualities(MeterTree tree, int... qualities) {
        for (int interval = 0; interval < qualities.length; interval++) {
            due("quality(0, " + interval + ")", tree.quality(0, interval), qualities[interval]);
        }
    }
}
