/** Promises 34 to 38: the text and the digest. */
public final class TextTest {
    public static void main(String[] args) {
        promise34();
        promise35();
        promise36();
        promise36Blanks();
        promise36Bytes();
        promise37();
        promise38();
        Checks.end("TextTest");
    }

    private static void promise34() {
        MeterTree tree = new MeterTree();
        Checks.due("type(-1)", tree.type(-1), Checks.BAD_VALUE);
        Checks.due("type(256)", tree.type(256), Checks.BAD_VALUE);
        Checks.due("type(0)", tree.type(0), 1);
        Checks.due("type(255)", tree.type(255), 2);
        for (int length = 3; length <= 120; length++) {
            Checks.due("type", tree.type(' '), length);
        }
        Checks.due("full", tree.type(' '), Checks.FULL);
        Checks.due("full, and out of range", tree.type(256), Checks.BAD_VALUE);
        Checks.due("length", tree.clearText(), 120);
        Checks.due("not recorded", tree.undo(), Checks.BAD_STATE);
    }

    private static void promise35() {
        MeterTree tree = Checks.tree(0);
        Checks.due("empty", tree.clearText(), 0);
        Checks.text(tree, "0@0=5");
        Checks.due("five", tree.clearText(), 5);
        Checks.due("empty", tree.clearText(), 0);
        Checks.due("load of an empty text", tree.load(), Checks.BAD_STATE);
        Checks.due("type", tree.type('0'), 1);
        Checks.due("fault", tree.textFault(), 1);
        Checks.due("not recorded", Checks.historyOf(tree), 1);
    }

    private static void dueFault(MeterTree tree, String text, int fault) {
        Checks.text(tree, text);
        long before = tree.digest();
        Checks.due("textFault of '" + text + "'", tree.textFault(), fault);
        Checks.due("textFault changes nothing", tree.digest(), before);
        if (fault != Checks.NONE) {
            Checks.due("load of '" + text + "'", tree.load(), Checks.BAD_STATE);
            Checks.due("load changes nothing", tree.digest(), before);
        }
        Checks.due("the text stays", tree.clearText(), text.length());
    }

    private static MeterTree twoRegisters() {
        MeterTree tree = Checks.tree(0, 0);
        tree.setRegister(1, 3, 5);
        return tree;
    }

    private static void promise36() {
        MeterTree tree = twoRegisters();
        dueFault(tree, "0@0=0", Checks.NONE);
        dueFault(tree, "1@12=999;0@0=-", Checks.NONE);
        dueFault(tree, "000001@000012=000999", Checks.NONE);
        dueFault(tree, "", 0);
        dueFault(tree, "0", 1);
        dueFault(tree, "0@", 2);
        dueFault(tree, "0@0", 3);
        dueFault(tree, "0@0=", 4);
        dueFault(tree, "0@0=-;", 6);
        dueFault(tree, "0@0=0;1", 7);
        dueFault(tree, "2@0=0", 0);
        dueFault(tree, "2", 0);
        dueFault(tree, "2x", 0);
        dueFault(tree, "11@0=0", 0);
        dueFault(tree, "0@13=0", 2);
        dueFault(tree, "0@99", 2);
        dueFault(tree, "0@0=100000", 4);
        dueFault(tree, "0@0=99999", Checks.NONE);
        dueFault(tree, "1@0=1000", 4);
        dueFault(tree, "0@0=1;1@0=1000", 10);
        tree = twoRegisters();
        dueFault(tree, "0000000@0=0", 0);
        dueFault(tree, "0000000", 0);
        dueFault(tree, "0@0000000=0", 2);
        dueFault(tree, "0@0=0000001", 4);
        dueFault(tree, "0@0=4294967296000000000000000", 4);
        dueFault(tree, "@0=0", 0);
        dueFault(tree, "-@0=0", 0);
        dueFault(tree, "0=0", 1);
        dueFault(tree, "0@@", 2);
        dueFault(tree, "0@-=0", 2);
        dueFault(tree, "0@0@0", 3);
        dueFault(tree, "0@0==", 4);
        dueFault(tree, "0@0=;", 4);
        dueFault(tree, "0@0=-1", 5);
        dueFault(tree, "0@0=--", 5);
        dueFault(tree, "0@0=1-", 5);
        dueFault(tree, "0@0=1,", 5);
        dueFault(tree, "0@0=1;;", 6);
        dueFault(tree, ";0@0=1", 0);
        tree = twoRegisters();
        dueFault(new MeterTree(), "0@0=0", 0);
        dueFault(new MeterTree(), "x", 0);
        dueFault(new MeterTree(), "", 0);
        tree.setRegister(0, 6, 5);
        dueFault(tree, "0@0=999999", Checks.NONE);
        dueFault(tree, "0@0=1000000", 4);
        tree.setRegister(0, 4, 5);
        dueFault(tree, "0@0=9999", Checks.NONE);
        dueFault(tree, "0@0=10000", 4);
        for (int meter = 2; meter < 10; meter++) {
            tree.addMeter(0);
        }
        dueFault(tree, "9@0=0", Checks.NONE);
        dueFault(tree, "10@0=0", 0);
    }

    private static void promise36Blanks() {
        MeterTree tree = Checks.tree(0);
        dueFault(tree, "   ", 3);
        dueFault(tree, "  0  @  12  =  5  ", Checks.NONE);
        dueFault(tree, " 0 @ 1 = - ; 0 @ 2 = 3 ", Checks.NONE);
        dueFault(tree, "0 0@0=0", 2);
        dueFault(tree, "0@1 2=0", 4);
        dueFault(tree, "0@1=2 3", 6);
        dueFault(tree, "0@1=- -", 6);
        dueFault(tree, "0@1= 100000", 5);
        dueFault(tree, "  7@1=1", 2);
        dueFault(tree, "0@ 13=1", 3);
        dueFault(tree, "0@1=2;  ", 8);
        dueFault(tree, "0@1=  ", 6);
        dueFault(tree, "0\t@1=2", 1);
        dueFault(tree, "0@1=2\n", 5);
    }

    /** Each byte at the place of each sign. */
    private static void promise36Bytes() {
        String text = "0@1=2;";
        for (int at = 0; at <= 5; at++) {
            for (int code = 0; code < 256; code++) {
                boolean digit = code >= '0' && code <= '9';
                boolean fits = code == ' ' || code == text.charAt(at);
                fits |= digit && at != 0 && at != 1 || digit && at == 1 && code == '0';
                fits |= at == 4 && code == '-';
                MeterTree tree = Checks.tree(0);
                Checks.text(tree, text.substring(0, at));
                tree.type(code);
                int fault = tree.textFault();
                // A digit behind the first number makes it another one, which begins at 0.
                if (at == 1 && digit && code != '0') {
                    Checks.due("a meter of two digits", fault, 0);
                } else if (at == 3 && digit) {
                    Checks.due("a boundary of two digits", fault, code <= '2' ? 4 : 2);
                } else if (at == 5 && digit) {
                    Checks.due("a reading of two digits", fault, Checks.NONE);
                } else if (!fits) {
                    Checks.due("byte " + code + " at " + at, fault, at);
                } else {
                    boolean whole = at == 4 && code != ' ' || at == 5 && code == ' ';
                    Checks.due("byte " + code + " at " + at, fault, whole ? Checks.NONE : at + 1);
                }
            }
        }
    }

    private static void promise37() {
        MeterTree tree = Checks.tree(0, 0);
        tree.setAll(1, 0, 1);
        Checks.text(tree, "1@0=77;0@12=99999;1@3=-;1@0=-;1@4=000008");
        Checks.due("load", tree.load(), 3);
        Checks.due("in their order", tree.reading(1, 0), Checks.NONE);
        Checks.due("set", tree.reading(0, 12), 99999);
        Checks.due("removed", tree.reading(1, 3), Checks.NONE);
        Checks.due("set", tree.reading(1, 4), 8);
        Checks.due("others stay", tree.reading(1, 5), 5);
        Checks.due("as one call", tree.undo(), 3);
        Checks.due("undone", tree.reading(1, 0), 0);
        Checks.due("undone", tree.reading(0, 12), Checks.NONE);
        Checks.due("load again", tree.load(), 3);
        Checks.due("the text stays", tree.clearText(), 40);
        Checks.text(tree, "0@5=-");
        Checks.due("no numbers", tree.load(), 0);
        Checks.due("recorded all the same", tree.undo(), 4);
        Checks.text(tree, "0@5=1;0@13=1");
        long before = tree.digest();
        Checks.due("fault", tree.load(), Checks.BAD_STATE);
        Checks.due("nothing changed", tree.digest(), before);
        Checks.due("not recorded", Checks.historyOf(tree), 4);
        promise37Long();
    }

    /** Twenty readings are the most that a text can hold. */
    private static void promise37Long() {
        MeterTree tree = Checks.tree(0, 0);
        StringBuilder text = new StringBuilder();
        for (int entry = 0; entry < 20; entry++) {
            text.append(entry == 0 ? "" : ";").append(entry / 10).append('@').append(entry % 10).append('=').append(entry % 7);
        }
        text.append(' ');
        Checks.text(tree, text.toString());
        Checks.due("length", tree.type(' '), Checks.FULL);
        Checks.due("load", tree.load(), 20);
        for (int entry = 0; entry < 20; entry++) {
            Checks.due("reading", tree.reading(entry / 10, entry % 10), entry % 7);
        }
    }

    private static void promise38() {
        MeterTree tree = Checks.tree(0, 0);
        tree.setMeter(1, 9, 8);
        tree.setRegister(1, 6, 77);
        tree.setAll(1, 5, 60);
        tree.setReading(0, 2, 3);
        tree.setRules(6, 7);
        tree.revise();
        tree.addMeter(1);
        tree.revise();
        long hash = mix(17, 3);
        for (int meter = 0; meter < 3; meter++) {
            for (int what = 0; what < 5; what++) {
                hash = mix(hash, tree.meter(meter, what));
            }
            for (int boundary = 0; boundary <= 12; boundary++) {
                hash = mix(hash, tree.reading(meter, boundary));
            }
        }
        hash = mix(mix(mix(hash, 6), 7), 2);
        for (int revision = 0; revision < 2; revision++) {
            for (int meter = 0; meter < 3; meter++) {
                hash = mix(hash, tree.billOf(revision, meter));
            }
        }
        Checks.due("digest", tree.digest(), hash);
        Checks.due("there was no meter 2", tree.billOf(0, 2), Checks.NONE);
        tree.type('0');
        Checks.due("the text is not in it", tree.digest(), hash);
        tree.clearRevisions();
        tree.undo();
        Checks.due("nor the history", tree.digest(), hash);
    }

    private static long mix(long hash, int value) {
        return 31 * hash + value;
    }
}
