import java.math.BigInteger;
import java.util.ArrayList;
import java.util.List;

/** The sentences of 'Text', and of the promises 34 to 38. */
final class TextSentences {
    private TextSentences() {
    }

    static void all() {
        grammar();
        numbers();
        blanks();
        faults();
        firstDigits();
        tooEarly();
        promise34();
        promise35();
        promise36();
        promise37();
        promise37Recorded();
        promise38();
    }

    /** Two meters: 0 with five digits, 1 with three. */
    private static MeterTree typed(String text) {
        MeterTree tree = Sentence.pair();
        tree.setRegister(1, 3, 100);
        Checks.text(tree, text);
        return tree;
    }

    private static void dueFault(String text, int fault) {
        Sentence.due("textFault() of '" + text + "'", typed(text).textFault(), fault);
        if (fault != Checks.NONE) {
            Sentence.refused("load() of '" + text + "'", () -> typed(text), MeterTree::load, Checks.BAD_STATE);
        }
    }

    private static void dueLoad(String text, int numbers) {
        Sentence.due("textFault() of '" + text + "'", typed(text).textFault(), Checks.NONE);
        Sentence.due("load() of '" + text + "'", typed(text).load(), numbers);
    }

    /** A text of 120 bytes: twenty readings, and a blank. */
    private static String longest() {
        StringBuilder text = new StringBuilder();
        for (int reading = 0; reading < 20; reading++) {
            text.append(reading == 0 ? "" : ";").append(reading / 10).append('@').append(reading % 10).append('=').append(reading % 7);
        }
        return text.append(' ').toString();
    }

    private static void grammar() {
        Sentence.section("Text");
        Sentence.says("Readings can be given by a text of at most 120 bytes with this grammar:");
        MeterTree tree = typed(longest());
        Sentence.due("a byte more", tree.type(' '), Checks.FULL);
        Sentence.due("load()", tree.load(), 20);
        for (int reading = 0; reading < 20; reading++) {
            Sentence.due("reading", tree.reading(reading / 10, reading % 10), reading % 7);
        }
        Sentence.due("clearText()", tree.clearText(), 120);
        dueLoad("0@0=1" + " ".repeat(115), 1);
        dueLoad(" ".repeat(115) + "0@0=1", 1);

        Sentence.says("list = reading { \";\" reading }");
        dueLoad("0@0=1", 1);
        dueLoad("0@0=1;1@2=3", 2);
        dueLoad("0@0=1;1@2=-;0@12=9", 2);
        dueFault(";0@0=1", 0);
        dueFault("0@0=1;;1@2=3", 6);
        dueFault("0@0=1,1@2=3", 5);
        dueFault("0@0=-1@2=3", 5);
        dueFault("0@0=1;1@2=3;", 12);

        Sentence.says("reading = number \"@\" number \"=\" ( number | \"-\" )");
        dueLoad("0@0=-", 0);
        dueFault("-@0=1", 0);
        dueFault("0@-=1", 2);
        dueFault("0@0=@", 4);
        dueFault("0@0=--", 5);
        dueFault("0=0@1", 1);
        dueFault("0@0@1", 3);
        dueFault("0@@0=1", 2);
        dueFault("0@0==1", 4);
        dueFault("@0=1", 0);
        dueFault("0@=1", 2);
        dueFault("0@0=;", 4);

        Sentence.says("The first number is the meter, the second one the boundary, the third one the reading;");
        tree = typed("1@12=5");
        tree.load();
        Sentence.due("reading(1, 12)", tree.reading(1, 12), 5);
        for (int meter = 0; meter < 2; meter++) {
            for (int boundary = 0; boundary < 12; boundary++) {
                Sentence.due("reading(" + meter + ", " + boundary + ")", tree.reading(meter, boundary), Checks.NONE);
            }
        }

        Sentence.says("- stands for none.");
        tree = typed("0@3=-;0@4=0");
        tree.setAll(0, 5, 1);
        tree.load();
        Sentence.due("reading(0, 2)", tree.reading(0, 2), 7);
        Sentence.due("reading(0, 3)", tree.reading(0, 3), Checks.NONE);
        Sentence.due("reading(0, 4)", tree.reading(0, 4), 0);
    }

    private static void numbers() {
        Sentence.says("Numbers have 1 to 6 digits.");
        dueLoad("1@2=3", 1);
        dueLoad("01@02=03", 1);
        dueLoad("000001@000002=000003", 1);
        dueFault("0000001@2=3", 0);
        dueFault("1@0000002=3", 2);
        dueFault("1@2=0000003", 4);
        dueFault("1@2=0000000", 4);
        MeterTree tree = typed("000001@000012=000999");
        tree.load();
        Sentence.due("reading(1, 12)", tree.reading(1, 12), 999);
        tree = Checks.tree(0);
        tree.setRegister(0, 6, 1);
        Checks.text(tree, "0@0=999999");
        Sentence.due("textFault() of a number of six digits", tree.textFault(), Checks.NONE);
        tree.type('9');
        Sentence.due("textFault() of a number of seven digits", tree.textFault(), 4);
    }

    private static void blanks() {
        Sentence.says("Blanks (32) may stand anywhere except within numbers (a blank ends a number).");
        String[] parts = {"", "0", "@", "11", "=", "12", ";", "1", "@", "2", "=", "-", ""};
        for (int place = 0; place + 1 < parts.length; place++) {
            StringBuilder text = new StringBuilder();
            for (int part = 0; part < parts.length; part++) {
                text.append(parts[part]).append(part == place ? "  " : "");
            }
            dueLoad(text.toString(), 1);
            MeterTree tree = typed(text.toString());
            tree.load();
            Sentence.due("reading(0, 11) of '" + text + "'", tree.reading(0, 11), 12);
        }
        dueLoad(" 0 @ 11 = 12 ; 1 @ 2 = - ", 1);
        dueFault("0 1@2=3", 2);
        dueFault("0@1 2=3", 4);
        dueFault("0@1=2 3", 6);
        dueFault("0@1=- -", 6);
        dueFault("0@1=- 3", 6);
        for (int code = 0; code < 256; code++) {
            boolean fits = code == ' ' || code == '@' || code >= '0' && code <= '9';
            MeterTree tree = typed("0");
            tree.type(code);
            int fault = tree.textFault();
            // A further digit makes another number, which is a meter only for "00" and "01".
            boolean early = code == ' ' || code == '@' || code == '0' || code == '1';
            Sentence.due("textFault() of '0' and the byte " + code, fault, early ? 2 : fits ? 0 : 1);
        }
    }

    private static void faults() {
        Sentence.says("The fault of the text is the position, from 0, of the first byte that is not allowed at its place");
        dueFault("x", 0);
        dueFault("0x", 1);
        dueFault("0@x", 2);
        dueFault("0@0x", 3);
        dueFault("0@0=x", 4);
        dueFault("0@0=1x", 5);
        dueFault("0@0=-x", 5);
        dueFault("0@0=1;x", 6);
        dueFault("  x", 2);
        dueFault("0@0=1 ; 1 @ 2 = 3 x", 18);
        dueFault("x0@0=1;x", 0);
        dueFault("0@0=1;1@2=3;0@x=5;y", 14);
        dueFault("1@0=1\t", 5);
        dueFault("1@0=1\u0000", 5);
        dueFault("1@0=1\u00a0", 5);
        dueFault("1@0=\u00b2", 4);
        String longest = longest().substring(0, 119);
        dueFault(longest + "x", 119);
        dueFault(longest + ";", 120);
    }

    private static void firstDigits() {
        Sentence.says("(for a meter that does not exist, a boundary or a reading that is out of its range, or a number with too many digits, its first digit),");
        dueFault("2@0=0", 0);
        dueFault("10@0=0", 0);
        dueFault("999999@0=0", 0);
        dueFault("  2 @0=0", 2);
        dueFault("0@0=1;2@0=0", 6);
        dueFault("0@13=0", 2);
        dueFault("0@ 013=0", 3);
        dueFault("0@999999=0", 2);
        dueLoad("0@12=0", 1);
        dueFault("0@0=100000", 4);
        dueLoad("0@0=99999", 1);
        dueFault("1@0=1000", 4);
        dueLoad("1@0=999", 1);
        dueFault("1@0= 1000", 5);
        dueFault("1@0=999999", 4);
        dueFault("0000000@0=0", 0);
        dueFault("0@0000000=0", 2);
        dueFault("0@0=0000000", 4);
        dueFault("0@0=99999999999999999999", 4);
        dueFault("4294967296@0=0", 0);
        dueFault("0@4294967296=0", 2);
        dueFault("0@0=4294967296", 4);
        // The number is at fault before what comes behind it.
        dueFault("2x", 0);
        dueFault("2", 0);
        dueFault("0@13", 2);
        dueFault("0@13x", 2);
        dueFault("1@0=1000x", 4);
        dueFault("1@0=1000", 4);
        dueFault("0000000", 0);
        MeterTree tree = new MeterTree();
        Checks.text(tree, "0@0=0");
        Sentence.due("textFault() without meters", tree.textFault(), 0);
        tree.addMeter(0);
        Sentence.due("textFault() with a meter", tree.textFault(), Checks.NONE);
        tree.undo();
        Sentence.due("textFault() without it again", tree.textFault(), 0);
        int[] greatest = {999, 9999, 99999, 999999};
        for (int digits = 3; digits <= 6; digits++) {
            tree = Checks.tree(0);
            tree.setRegister(0, digits, 1);
            Checks.text(tree, "0@0=" + greatest[digits - 3]);
            Sentence.due("textFault() of the greatest reading", tree.textFault(), Checks.NONE);
            Checks.text(tree, "0@0=" + (greatest[digits - 3] + 1));
            Sentence.due("textFault() of a greater one", tree.textFault(), 4);
        }
        tree = Checks.tree(0, 0, 0, 0, 0, 0, 0, 0, 0, 0);
        Checks.text(tree, "9@0=0");
        Sentence.due("textFault() of meter 9", tree.textFault(), Checks.NONE);
        Checks.text(tree, "10@0=0");
        Sentence.due("textFault() of meter 10", tree.textFault(), 0);
    }

    private static void tooEarly() {
        Sentence.says("or the length of the text, if it ends too early (also if it is empty).");
        String text = "0@12=34;1@5=-";
        for (int length = 0; length <= text.length(); length++) {
            boolean whole = length == 6 || length == 7 || length == text.length();
            dueFault(text.substring(0, length), whole ? Checks.NONE : length);
        }
        dueFault(" ", 1);
        dueFault(" ".repeat(120), 120);
        dueFault("0@0= ", 5);
        dueFault("0@0=1; ", 7);
        MeterTree tree = new MeterTree();
        Sentence.due("textFault() of a new object", tree.textFault(), 0);
        tree.type(' ');
        Sentence.due("textFault() of a blank", tree.textFault(), 1);
    }

    private static void promise34() {
        Sentence.section("Promise 34: type");
        Sentence.says("Appends a byte to the text.");
        MeterTree tree = typed("0@0=5");
        tree.type('6');
        tree.type(' ');
        tree.load();
        Sentence.due("reading(0, 0)", tree.reading(0, 0), 56);
        Sentence.due("clearText()", tree.clearText(), 7);
        Sentence.onlyAsks("type(48), and the text emptied,", Sentence::pair, one -> one.type(48) + one.clearText());

        Sentence.says("`code`: the byte, 0 to 255");
        tree = new MeterTree();
        for (int code = 0; code < 256; code++) {
            Sentence.due("type(" + code + ")", tree.type(code), 1);
            tree.clearText();
            if (code == 128) {
                tree = new MeterTree();
            }
        }

        Sentence.says("Returns the length of the text;");
        tree = new MeterTree();
        for (int length = 1; length <= 120; length++) {
            Sentence.due("type(255)", tree.type(255), length);
        }

        Sentence.says("BAD_VALUE if code is out of range;");
        for (int code : Sentence.outside(0, 255)) {
            Sentence.refused("type(" + code + ")", () -> typed("0@0=5"), one -> one.type(code), Checks.BAD_VALUE);
            Sentence.refused("type(" + code + ") at 120", () -> typed(longest()), one -> one.type(code), Checks.BAD_VALUE);
        }

        Sentence.says("FULL if the text has 120 bytes.");
        Sentence.due("type(32) at 119", typed(longest().substring(0, 119)).type(32), 120);
        for (int code : new int[] {0, 32, 48, 255}) {
            Sentence.refused("type(" + code + ") at 120", () -> typed(longest()), one -> one.type(code), Checks.FULL);
        }
        tree.clearText();
        Sentence.due("type(32) after clearText()", tree.type(32), 1);
    }

    private static void promise35() {
        Sentence.section("Promise 35: clearText");
        Sentence.says("Empties the text.");
        MeterTree tree = typed("0@0=5");
        tree.clearText();
        Sentence.due("textFault()", tree.textFault(), 0);
        Sentence.due("load()", tree.load(), Checks.BAD_STATE);
        Sentence.due("clearText() again", tree.clearText(), 0);
        Checks.text(tree, "1@2=3");
        Sentence.due("load() of another text", tree.load(), 1);
        Sentence.due("reading(0, 0)", tree.reading(0, 0), Checks.NONE);
        Sentence.onlyAsks("clearText()", Sentence::pair, MeterTree::clearText);

        Sentence.says("Returns the length that it had.");
        for (int length = 0; length <= 120; length += 20) {
            Sentence.due("clearText() at " + length, typed(" ".repeat(length)).clearText(), length);
        }
        Sentence.due("clearText() of a new object", new MeterTree().clearText(), 0);
    }

    private static void promise36() {
        Sentence.section("Promise 36: textFault");
        Sentence.says("Checks the text.", "Returns its fault;");
        dueFault("0@0=5;0@5", 9);
        dueFault("0@0=5;0@5!", 9);
        Sentence.onlyAsks("textFault()", () -> typed("0@0=5;0@5!"), MeterTree::textFault);

        Sentence.says("NONE if it has none.");
        Sentence.due("textFault() of '0@0=5;0@5=-'", typed("0@0=5;0@5=-").textFault(), Checks.NONE);
        Sentence.due("textFault() of '0@0=5'", typed("0@0=5").textFault(), Checks.NONE);
        MeterTree tree = typed("0@0=5");
        tree.textFault();
        Sentence.due("reading(0, 0), which is not loaded", tree.reading(0, 0), Checks.NONE);
        Sentence.due("undo(), which meets no load()", tree.undo(), 2);
    }

    private static void promise37() {
        Sentence.section("Promise 37: load");
        Sentence.says("Sets and removes the readings of the text, in their order.");
        MeterTree tree = typed("1@0=77;0@12=99999;1@3=-;1@0=-;1@4=008;1@4=9;0@1=-;0@1=0");
        tree.setAll(1, 10, 1);
        tree.load();
        int[] readings = {Checks.NONE, 11, 12, Checks.NONE, 9, 15};
        for (int boundary = 0; boundary < 6; boundary++) {
            Sentence.due("reading(1, " + boundary + ")", tree.reading(1, boundary), readings[boundary]);
        }
        Sentence.due("reading(0, 12)", tree.reading(0, 12), 99999);
        Sentence.due("reading(0, 1)", tree.reading(0, 1), 0);
        Sentence.due("reading(0, 0)", tree.reading(0, 0), Checks.NONE);
        Sentence.due("the text stays", tree.clearText(), 55);

        Sentence.says("Returns how many readings of the text are numbers;");
        dueLoad("0@0=-", 0);
        dueLoad("0@0=0", 1);
        dueLoad("0@0=-;0@0=-;0@1=-", 0);
        dueLoad("0@0=5;0@0=5;0@0=5", 3);
        dueLoad("0@0=5;0@0=-;0@0=6", 2);
        dueLoad(longest(), 20);

        Sentence.says("BAD_STATE if the text has a fault.");
        Sentence.refused("load() of an empty text", () -> typed(""), MeterTree::load, Checks.BAD_STATE);
        for (String text : new String[] {"x", "0@0=5;", "0@0=5;1@0=1000", "0@0=5;2@0=0", "0@0=5;0@13=0", "0@0=5 5", "0@0=5;0@1="}) {
            Sentence.refused("load() of '" + text + "'", () -> typed(text), MeterTree::load, Checks.BAD_STATE);
        }
        tree = typed("1@0=1000");
        Sentence.due("load() of four digits", tree.load(), Checks.BAD_STATE);
        tree.setRegister(1, 4, 1);
        Sentence.due("load() of four digits into four", tree.load(), 1);
    }

    private static void promise37Recorded() {
        Sentence.says("Recorded, as one call.");
        Sentence.recorded("load()", () -> typed("0@0=5;0@1=6;1@2=-;1@3=4"), MeterTree::load);
        Sentence.recorded("load() of a long text", () -> typed(longest()), MeterTree::load);
        Sentence.recorded("load() that changes nothing", () -> typed("0@0=-"), MeterTree::load);
        Sentence.recorded("load() with a full history", Sentence::family, MeterTree::load);
        MeterTree tree = typed("0@0=5;0@1=6");
        tree.load();
        Sentence.due("undo()", tree.undo(), 3);
        Sentence.due("reading(0, 0)", tree.reading(0, 0), Checks.NONE);
        Sentence.due("reading(0, 1)", tree.reading(0, 1), Checks.NONE);
        Sentence.due("load() again", tree.load(), 2);
    }

    /** The numbers that the document lists, mixed without bounds and cut to a long at the end. */
    private static long hashOf(List<Integer> numbers) {
        BigInteger hash = BigInteger.valueOf(17);
        for (int number : numbers) {
            hash = hash.multiply(BigInteger.valueOf(31)).add(BigInteger.valueOf(number));
        }
        return hash.longValue();
    }

    private static void promise38() {
        Sentence.section("Promise 38: digest");
        Sentence.says("Returns a hash of the state.", "It begins with h = 17; for each of the following numbers v, in this order, h becomes 31 * h + v (long arithmetic, with overflow):", "Returns h.");
        Sentence.due("digest() of a new object", new MeterTree().digest(), hashOf(List.of(0, 5, 50, 0)));
        // 17 times 31 to the 22 is far beyond the longs.
        List<Integer> numbers = new ArrayList<>(List.of(1, Checks.NONE, 1, 5, 10000, 1));
        for (int boundary = 0; boundary <= 12; boundary++) {
            numbers.add(Checks.NONE);
        }
        numbers.addAll(List.of(5, 50, 0));
        Sentence.due("digest() with a meter", Checks.tree(0).digest(), hashOf(numbers));
        Sentence.onlyAsks("digest()", Sentence::family, one -> (int) (one.digest() & 1));

        Sentence.says("the number of meters; for each of them its properties 0 to 4, and for each boundary its reading (NONE if there is none);");
        MeterTree tree = Checks.tree(0, 0);
        tree.setMeter(1, 9, 8);
        tree.setRegister(1, 6, 77);
        tree.setAll(1, 999990, 60);
        tree.removeReading(1, 2);
        tree.setReading(0, 12, 3);
        numbers = new ArrayList<>(List.of(2, Checks.NONE, 1, 5, 10000, 1));
        for (int boundary = 0; boundary < 12; boundary++) {
            numbers.add(Checks.NONE);
        }
        numbers.addAll(List.of(3, 0, 9, 6, 77, 8, 999990, 50, Checks.NONE, 170, 230, 290, 350, 410, 470, 530, 590, 650, 710));
        List<Integer> meters = new ArrayList<>(numbers);
        numbers.addAll(List.of(5, 50, 0));
        Sentence.due("digest()", tree.digest(), hashOf(numbers));

        Sentence.says("the spike factor; the tolerance; the number of revisions, and for each of them billOf() of all meters.");
        tree.setRules(6, 7);
        numbers = new ArrayList<>(meters);
        numbers.addAll(List.of(6, 7, 0));
        Sentence.due("digest() without revisions", tree.digest(), hashOf(numbers));
        tree = Checks.tree(0);
        tree.setReading(0, 0, 0);
        tree.setReading(0, 12, 25);
        tree.revise();
        tree.addMeter(0);
        tree.setReading(0, 12, 26);
        tree.revise();
        numbers = new ArrayList<>(List.of(2, Checks.NONE, 1, 5, 10000, 1, 0));
        for (int boundary = 1; boundary < 12; boundary++) {
            numbers.add(Checks.NONE);
        }
        numbers.addAll(List.of(26, 0, 1, 5, 10000, 1));
        for (int boundary = 0; boundary <= 12; boundary++) {
            numbers.add(Checks.NONE);
        }
        numbers.addAll(List.of(5, 50, 2, 25, Checks.NONE, 26, 26));
        Sentence.due("digest() with two revisions", tree.digest(), hashOf(numbers));
        tree.type('0');
        Sentence.due("the text is not in it", tree.digest(), hashOf(numbers));
        tree.setRules(5, 50);
        Sentence.due("nor the history", tree.digest(), hashOf(numbers));
    }
}
