/** Promises 21 to 27: bills, shares, and the suspicion of wrong multipliers. */
public final class BillsTest {
    private static final int[] WRONG_INTERVALS = {-1, 12, Integer.MIN_VALUE, Integer.MAX_VALUE};

    public static void main(String[] args) {
        promises21And22();
        remainders();
        negativeBills();
        tenMeters();
        eachCallAlone();
        promise23();
        promise24();
        promise25();
        promise26();
        promise27();
        promise27Ties();
        Checks.end("BillsTest");
    }

    private static void dueBilled(String name, MeterTree tree, int... billed) {
        for (int meter = 0; meter < billed.length; meter++) {
            Checks.due(name + ", billed " + meter, tree.billed(meter, 0), billed[meter]);
            Checks.due(name + ", part " + meter, tree.part(meter, 0), billed[meter] - tree.energy(meter, 0));
        }
    }

    private static void promises21And22() {
        MeterTree tree = Checks.tree(0, 0, 0, 1);
        tree.setAll(0, 99990, 100);
        tree.setAll(1, 0, 60);
        tree.setAll(2, 500, 30);
        tree.setAll(3, 0, 55);
        dueBilled("a loss", tree, 100, 67, 33, 67);
        Checks.due("part of the main meter", tree.part(0, 0), 0);
        Checks.due("part(3, 0)", tree.part(3, 0), 12);
        tree.setMeter(2, 1, 5);
        dueBilled("weights", tree, 100, 63, 37, 63);
        tree.setMeter(1, 2, 1);
        dueBilled("a gain", tree, 100, 98, 2, 98);
        Checks.due("negative part", tree.part(2, 0), -28);
        for (int interval : WRONG_INTERVALS) {
            Checks.due("no interval", tree.billed(0, interval), Checks.BAD_INDEX);
            Checks.due("no interval", tree.part(0, interval), Checks.BAD_INDEX);
        }
        Checks.due("no meter", tree.billed(4, 0), Checks.BAD_INDEX);
        Checks.due("no meter", tree.part(4, 0), Checks.BAD_INDEX);
        Checks.due("no meter", tree.billed(-1, 0), Checks.BAD_INDEX);
        Checks.due("no meter", tree.part(-1, 0), Checks.BAD_INDEX);
    }

    private static void remainders() {
        MeterTree tree = Checks.tree(0, 0, 0, 0);
        tree.setAll(0, 0, 10);
        dueBilled("claims by weight, ties to the lowest", tree, 10, 4, 3, 3);
        tree.setMeter(2, 1, 2);
        // 10 by 1 : 2 : 1 is 2.5, 5, 2.5.
        dueBilled("claims by weight", tree, 10, 3, 5, 2);
        tree.setAll(0, 0, 11);
        // 2.75, 5.5, 2.75
        dueBilled("two ones", tree, 11, 3, 5, 3);
        tree.setAll(3, 0, 4);
        // Only meter 3 has a claim.
        dueBilled("one claim", tree, 11, 0, 0, 11);
        tree.setAll(1, 0, 4);
        tree.setAll(2, 0, 4);
        tree.setMeter(2, 1, 1);
        tree.setAll(0, 0, 11);
        dueBilled("negative, one left", tree, 11, 3, 4, 4);
        tree.setAll(0, 0, 10);
        dueBilled("negative, two left", tree, 10, 3, 3, 4);
        tree.setAll(0, 0, 14);
        dueBilled("positive, two left", tree, 14, 5, 5, 4);
        tree.setAll(0, 0, 12);
        dueBilled("none left", tree, 12, 4, 4, 4);
    }

    private static void negativeBills() {
        MeterTree tree = Checks.tree(0, 0, 0, 2, 2);
        tree.setAll(0, 0, 1);
        tree.setAll(1, 0, 100);
        tree.setAll(2, 0, 100);
        tree.setMeter(2, 1, 100);
        // 199 by 1 : 100 is 1.97, 197.03.
        dueBilled("negative", tree, 1, 98, -97, -49, -48);
        Checks.due("day", tree.day(2, 2), -97 * 12);
        tree.setRegister(1, 6, 50000);
        tree.setRegister(2, 6, 50000);
        tree.setMeter(1, 100, 1);
        tree.setMeter(2, 100, 100);
        tree.setAll(1, 0, 50000);
        tree.setAll(2, 0, 50000);
        // 9999999 by 1 : 100 is 99009.891, 9900989.109.
        dueBilled("great", tree, 1, 4900990, -4900989, -2450495, -2450494);
        tree.setRegister(3, 6, 50000);
        tree.setMeter(3, 100, 100);
        tree.setAll(3, 0, 50000);
        dueBilled("great", tree, 1, 4900990, -4900989, -4900989, 0);
    }

    /** Ten meters in one line, and nine below one. */
    private static void tenMeters() {
        MeterTree line = Checks.tree(0, 0, 1, 2, 3, 4, 5, 6, 7, 8);
        line.setAll(0, 0, 17);
        line.setAll(5, 0, 40);
        dueBilled("a line", line, 17, 17, 17, 17, 17, 17, 17, 17, 17, 17);
        MeterTree star = Checks.tree(0, 0, 0, 0, 0, 0, 0, 0, 0, 0);
        star.setAll(0, 0, 17);
        dueBilled("nine children", star, 17, 2, 2, 2, 2, 2, 2, 2, 2, 1);
        star.setMeter(9, 1, 2);
        // 17 by 1 : ... : 1 : 2 is 1.7 for each of the eight, and 3.4: six ones are left.
        dueBilled("nine children", star, 17, 2, 2, 2, 2, 2, 2, 1, 1, 3);
        star.setMeter(9, 1, 1);
        for (int meter = 1; meter < 10; meter++) {
            star.setRegister(meter, 6, 50000);
            star.setMeter(meter, 100, 100);
            star.setAll(meter, 0, 50000);
        }
        // 44999983 to be taken from nine is 4999998, 1/9.
        dueBilled("nine great children", star, 17, 1, 2, 2, 2, 2, 2, 2, 2, 2);
        Checks.due("day of nine great children", star.day(9, 2), 24);
    }

    /** Each call finds its own answer, without another one before it. */
    private static void eachCallAlone() {
        int[] answers = {67, 12, 804, Float.floatToIntBits(0.67f), 670, 804, 240};
        for (int which = 0; which < answers.length; which++) {
            MeterTree tree = Checks.tree(0, 0, 0, 1);
            tree.setAll(0, 99990, 100);
            tree.setAll(1, 0, 60);
            tree.setAll(2, 500, 30);
            tree.setAll(3, 0, 55);
            int answer;
            switch (which) {
                case 0 -> answer = tree.billed(3, 0);
                case 1 -> answer = tree.part(3, 0);
                case 2 -> answer = tree.day(3, 2);
                case 3 -> answer = tree.shareBits(3);
                case 4 -> answer = tree.share(3);
                case 5 -> answer = tree.revise() + tree.billOf(0, 3);
                default -> answer = tree.imbalanceWith(0, 1, 3) - tree.imbalance(1);
            }
            Checks.due("call " + which + " alone", answer, answers[which]);
        }
    }

    private static void dueShare(String name, MeterTree tree, int meter, int bill, int main) {
        float share = main == 0 ? 0.0f : (float) bill / (float) main;
        Checks.due(name + ", shareBits", tree.shareBits(meter), Float.floatToIntBits(share));
        Checks.due(name + ", share", tree.share(meter), (int) (share * 1000.0f));
    }

    private static void promise23() {
        MeterTree tree = Checks.tree(0, 0, 0, 2, 2);
        for (int meter = 0; meter < 5; meter++) {
            Checks.due("no bill", tree.shareBits(meter), 0);
        }
        tree.setAll(0, 0, 100);
        Checks.due("all", tree.shareBits(0), 0x3f800000);
        Checks.due("half", tree.shareBits(1), 0x3f000000);
        Checks.due("quarter", tree.shareBits(4), 0x3e800000);
        tree.setAll(2, 0, 100);
        Checks.due("zero", tree.shareBits(1), 0);
        for (int step = 1; step < 100; step += 7) {
            tree.setMeter(1, 3, step);
            tree.setAll(1, 0, 2 * step);
            tree.setAll(2, 5, 101 - step);
            tree.setReading(0, 7, 700 + step / 9);
            for (int meter = 0; meter < 5; meter++) {
                dueShare("step " + step, tree, meter, tree.day(meter, 2), tree.day(0, 2));
            }
        }
        Checks.due("no meter", tree.shareBits(5), Checks.BAD_INDEX);
        Checks.due("no meter", tree.shareBits(-1), Checks.BAD_INDEX);
    }

    private static void promise24() {
        MeterTree tree = Checks.tree(0, 0, 0);
        Checks.due("no bill", tree.share(1), 0);
        tree.setAll(0, 0, 3);
        tree.setMeter(2, 1, 2);
        Checks.due("one third", tree.share(1), 333);
        Checks.due("two thirds", tree.share(2), 666);
        Checks.due("all", tree.share(0), 1000);
        Checks.due("no meter", tree.share(3), Checks.BAD_INDEX);
        Checks.due("no meter", tree.share(-1), Checks.BAD_INDEX);
        // The least bill of the main meter against the greatest of the others.
        for (int meter = 1; meter <= 2; meter++) {
            tree.setRegister(meter, 6, 50000);
            tree.setMeter(meter, 100, meter == 1 ? 1 : 100);
            tree.setAll(meter, 0, 50000);
        }
        tree.setAll(0, 0, 0);
        Checks.due("main meter at 0", tree.share(1), 0);
        tree.setReading(0, 12, 1);
        Checks.due("main meter at 1", tree.day(0, 2), 1);
        Checks.due("beyond the ints", tree.share(1), Integer.MAX_VALUE);
        Checks.due("below the ints", tree.share(2), Integer.MIN_VALUE);
        dueShare("great", tree, 1, tree.day(1, 2), 1);
        dueShare("great and negative", tree, 2, tree.day(2, 2), 1);
        tree.setMeter(2, 100, 1);
        tree.setRegister(0, 6, 50000);
        tree.setMeter(0, 100, 1);
        tree.setAll(0, 0, 50000);
        tree.setAll(1, 0, 0);
        tree.setReading(1, 12, 1);
        tree.setMeter(1, 1, 1);
        dueShare("small", tree, 1, tree.day(1, 2), 60000000);
        Checks.due("small bill", tree.day(1, 2), 1);
    }

    private static void promise25() {
        MeterTree tree = Checks.tree(0, 0, 0, 1);
        tree.setAll(0, 0, 100);
        tree.setAll(1, 0, 60);
        tree.setAll(2, 0, 30);
        Checks.due("losses", tree.imbalance(0), 120);
        tree.setAll(2, 0, 50);
        Checks.due("negative losses", tree.imbalance(0), 120);
        Checks.readings(tree, 2, 0, 50, 80);
        // Interval 1 has 30, interval 2 has 70, all others 50.
        Checks.due("both", tree.imbalance(0), 10 * 10 + 10 + 30);
        Checks.due("deeper", tree.imbalance(1), 720);
        Checks.due("leaf", tree.imbalance(2), Checks.NONE);
        Checks.due("no meter", tree.imbalance(4), Checks.BAD_INDEX);
        Checks.due("no meter", tree.imbalance(-1), Checks.BAD_INDEX);
    }

    private static void promise26() {
        MeterTree tree = Checks.tree(0, 0, 1, 0);
        tree.setAll(0, 0, 100);
        tree.setAll(1, 0, 10);
        tree.setAll(2, 0, 1000);
        tree.setAll(3, 0, 39);
        int[] first = {60, 59, 59, 56, 41, 21, 11, 39};
        int[] second = {87, 83, 81, 71, 12, 66, 105, 300};
        for (int factor = 0; factor < 8; factor++) {
            Checks.due("imbalanceWith(0, 0, " + factor + ")", tree.imbalanceWith(0, 0, factor), 12 * first[factor]);
            Checks.due("imbalanceWith(0, 1, " + factor + ")", tree.imbalanceWith(0, 1, factor), 12 * second[factor]);
        }
        Checks.due("deeper", tree.imbalanceWith(1, 0, 0), 12 * 90);
        for (int index : new int[] {-1, 2, Integer.MIN_VALUE, Integer.MAX_VALUE}) {
            Checks.due("no child", tree.imbalanceWith(0, index, 0), Checks.BAD_INDEX);
            Checks.due("no child, no factor", tree.imbalanceWith(0, index, 8), Checks.BAD_INDEX);
        }
        Checks.due("leaf", tree.imbalanceWith(2, 0, 0), Checks.BAD_INDEX);
        Checks.due("no meter", tree.imbalanceWith(4, 0, 0), Checks.BAD_INDEX);
        Checks.due("no factor", tree.imbalanceWith(0, 0, -1), Checks.BAD_VALUE);
        Checks.due("no factor", tree.imbalanceWith(0, 0, 8), Checks.BAD_VALUE);
        for (int meter = 0; meter < 4; meter++) {
            tree.setRegister(meter, 6, 50000);
            tree.setMeter(meter, 100, 1);
            tree.setAll(meter, 0, 50000);
        }
        Checks.due("great", tree.imbalanceWith(0, 0, 7), 12 * 50000000);
    }

    private static void promise27() {
        MeterTree tree = Checks.tree(0, 0, 0, 1);
        tree.setAll(0, 0, 100);
        tree.setAll(1, 0, 60);
        tree.setAll(2, 0, 40);
        Checks.due("no imbalance", tree.suspect(0), Checks.NONE);
        tree.setMeter(1, 2, 1);
        Checks.due("a half", tree.suspect(0), 13);
        tree.setMeter(1, 10, 1);
        Checks.due("a tenth", tree.suspect(0), 10);
        tree.setMeter(1, 5, 1);
        Checks.due("a fifth", tree.suspect(0), 11);
        tree.setMeter(1, 4, 1);
        Checks.due("a quarter", tree.suspect(0), 12);
        tree.setMeter(1, 1, 1);
        tree.setMeter(2, 10, 1);
        Checks.due("the other child", tree.suspect(0), 20);
        tree.setMeter(2, 1, 1);
        for (int factor = 4; factor < 8; factor++) {
            tree.setMeter(0, new int[] {2, 4, 5, 10}[factor - 4], 1);
            tree.setAll(1, 0, 0);
            tree.setAll(2, 0, 100);
            Checks.due("factor " + factor, tree.suspect(0), 20 + factor);
        }
        Checks.due("leaf", tree.suspect(2), Checks.NONE);
        Checks.due("deeper", tree.suspect(1), Checks.NONE);
        Checks.due("no meter", tree.suspect(4), Checks.BAD_INDEX);
        Checks.due("no meter", tree.suspect(-1), Checks.BAD_INDEX);
        Checks.due("great", greatSuspect(), 16);
    }

    /** An imbalance of 540 millions, whose fourth part only the longs can compare. */
    private static int greatSuspect() {
        MeterTree tree = Checks.tree(0, 0, 0, 0, 0, 0, 0, 0, 0, 0);
        for (int meter = 1; meter < 10; meter++) {
            tree.setRegister(meter, 6, 50000);
            tree.setMeter(meter, 100, 1);
            tree.setAll(meter, 0, 50000);
        }
        tree.setAll(0, 0, 0);
        Checks.due("great imbalance", tree.imbalance(0), 540000000);
        // No one child can take a quarter away, so there is none.
        Checks.due("nobody", tree.suspect(0), Checks.NONE);
        MeterTree small = Checks.tree(0, 0);
        small.setRegister(0, 6, 50000);
        small.setMeter(0, 50, 1);
        small.setAll(0, 0, 50000);
        small.setRegister(1, 6, 50000);
        small.setMeter(1, 10, 1);
        small.setAll(1, 0, 50000);
        return small.suspect(0);
    }

    private static void promise27Ties() {
        MeterTree tree = Checks.tree(0, 0, 0, 0);
        tree.setAll(0, 0, 30);
        tree.setAll(1, 0, 20);
        tree.setAll(2, 0, 20);
        tree.setAll(3, 0, 0);
        // Half of either one mends all: the lowest child.
        Checks.due("lowest child", tree.suspect(0), 13);
        tree.setAll(0, 0, 1);
        tree.setAll(1, 0, 0);
        tree.setAll(2, 0, 8);
        tree.setAll(3, 0, 0);
        // A fifth of 8 is 1, rounded down.
        Checks.due("a fifth", tree.suspect(0), 21);
        tree.setAll(2, 0, 9);
        tree.setAll(0, 0, 0);
        Checks.due("the lowest factor", tree.suspect(0), 20);
        tree.setAll(0, 0, 8);
        tree.setAll(1, 0, 10);
        tree.setAll(2, 0, 0);
        tree.setAll(3, 0, 2);
        // An imbalance of 4 and, with a half, 1: that times 4 is not less.
        Checks.due("not less than a quarter", tree.suspect(0), Checks.NONE);
        tree.setAll(0, 0, 17);
        tree.setAll(1, 0, 20);
        // An imbalance of 5 and, with a half, 5; with none of child 3, 3.
        Checks.due("not less than a quarter", tree.suspect(0), Checks.NONE);
        tree.setAll(0, 0, 20);
        tree.setAll(1, 0, 31);
        tree.setAll(3, 0, 2);
        // An imbalance of 13 and, with a half, 3.
        Checks.due("less than a quarter", tree.suspect(0), 13);
        tree.setAll(0, 0, 5);
        tree.setAll(1, 0, 5);
        tree.setAll(3, 0, 5);
        // An imbalance of 5 and, with a tenth, 0.
        Checks.due("a tenth", tree.suspect(0), 10);
    }
}
