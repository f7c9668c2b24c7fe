/** The sentences of 'Allocation', of 'Suspicion', and of the promises 21 to 27. */
final class BillSentences {
    private BillSentences() {
    }

    static void all() {
        differences();
        claims();
        parts();
        signs();
        bills();
        shares();
        imbalances();
        factors();
        suspects();
        promise21();
        promise22();
        promise23();
        promise24();
        promise25();
        promise26();
        promise26Errors();
        promise27();
    }

    /** A main meter and its children: their energies in all intervals, 0 to 99999 each. */
    private static MeterTree star(int main, int... energies) {
        MeterTree tree = Checks.tree(0);
        tree.setRegister(0, 6, 50000);
        tree.setAll(0, 0, main);
        for (int child = 1; child <= energies.length; child++) {
            tree.addMeter(0);
            tree.setRegister(child, 6, 50000);
            tree.setAll(child, 0, energies[child - 1]);
        }
        return tree;
    }

    private static void weights(MeterTree tree, int... weights) {
        for (int child = 1; child <= weights.length; child++) {
            tree.setMeter(child, tree.meter(child, 1), weights[child - 1]);
        }
    }

    private static void dueBilled(MeterTree tree, int... billed) {
        for (int meter = 0; meter < billed.length; meter++) {
            Sentence.due("billed(" + meter + ", 0)", tree.billed(meter, 0), billed[meter]);
            Sentence.due("billed(" + meter + ", 11)", tree.billed(meter, 11), billed[meter]);
        }
    }

    private static void dueParts(MeterTree tree, int... parts) {
        for (int meter = 0; meter < parts.length; meter++) {
            Sentence.due("part(" + meter + ", 0)", tree.part(meter, 0), parts[meter]);
        }
    }

    private static void differences() {
        Sentence.section("Allocation");
        Sentence.says("Each meter has a billed energy in each interval.");
        MeterTree tree = Sentence.family();
        int[] billed = {100, 67, 33, 67};
        for (int meter = 0; meter < 4; meter++) {
            for (int interval = 0; interval < 12; interval++) {
                Sentence.due("billed(" + meter + ", " + interval + ")", tree.billed(meter, interval), billed[meter]);
            }
        }
        tree = Sentence.pair();
        Sentence.due("billed(1, 5) without readings", tree.billed(1, 5), 0);

        Sentence.says("That of the main meter is its energy.");
        Sentence.due("billed(0, 3), more than its children", star(100, 10, 20).billed(0, 3), 100);
        Sentence.due("billed(0, 3), less than its children", star(100, 100, 20).billed(0, 3), 100);
        Sentence.due("billed(0, 3), no children", star(100).billed(0, 3), 100);
        tree = star(100, 10, 20);
        tree.removeReading(0, 0);
        tree.removeReading(0, 6);
        tree.setReading(0, 7, 690);
        Sentence.due("billed(0, 0), estimated", tree.billed(0, 0), 100);
        Sentence.due("billed(0, 5), estimated", tree.billed(0, 5), 95);

        Sentence.says("For each meter p with children, by ascending numbers, let d be the billed energy of p minus the sum of the energies of its children.");
        tree = Checks.tree(0, 0, 1, 2);
        tree.setAll(0, 0, 100);
        tree.setAll(1, 0, 60);
        tree.setAll(2, 0, 55);
        tree.setAll(3, 0, 200);
        dueBilled(tree, 100, 100, 100, 100);
        dueParts(tree, 0, 40, 45, -100);
        tree = Checks.tree(0, 0, 1, 2, 3, 4, 5, 6, 7, 8);
        tree.setAll(0, 0, 17);
        tree.setAll(5, 0, 40);
        dueBilled(tree, 17, 17, 17, 17, 17, 17, 17, 17, 17, 17);

        Sentence.says("d is allocated to the children:");
        tree = star(100, 7, 8, 9);
        Sentence.due("the parts together", tree.part(1, 0) + tree.part(2, 0) + tree.part(3, 0), 76);
        tree = star(10, 7, 8, 9);
        Sentence.due("the parts together", tree.part(1, 0) + tree.part(2, 0) + tree.part(3, 0), -14);
        dueParts(star(24, 7, 8, 9), 0, 0, 0, 0);
    }

    private static void claims() {
        Sentence.says("child c has the claim g(c) = weight * energy,");
        // 10 by 60 : 30, then by 60 : 150.
        MeterTree tree = star(100, 60, 30);
        dueParts(tree, 0, 7, 3);
        weights(tree, 1, 5);
        dueParts(tree, 0, 3, 7);
        weights(tree, 100, 1);
        dueParts(tree, 0, 10, 0);
        // A child without energy has no claim beside one with some, whatever its weight.
        tree = star(50, 0, 1, 0);
        weights(tree, 100, 1, 100);
        dueParts(tree, 0, 0, 49, 0);

        Sentence.says("or, if all these are 0, g(c) = weight.");
        tree = star(10, 0, 0);
        dueParts(tree, 0, 5, 5);
        weights(tree, 1, 3);
        dueParts(tree, 0, 3, 7);
        weights(tree, 100, 1);
        dueParts(tree, 0, 10, 0);
        dueParts(star(7, 0), 0, 7);

        Sentence.says("Let G be the sum of all claims, and D the absolute value of d.");
        // 10 by 60 : 50 is 5 5/11 and 4 6/11.
        tree = star(100, 60, 50);
        dueParts(tree, 0, -5, -5);
        weights(tree, 2, 1);
        // 10 by 120 : 50 is 7 1/17 and 2 16/17.
        dueParts(tree, 0, -7, -3);
    }

    private static void parts() {
        Sentence.says("c gets the part D * g(c) / G (integer division);");
        dueParts(star(15, 1, 2), 0, 4, 8);
        // Both products are beyond the ints: 2000000 times 100000000 and 200000000.
        MeterTree tree = star(50000, 10000, 20000);
        tree.setMeter(0, 100, 1);
        tree.setMeter(1, 100, 100);
        tree.setMeter(2, 100, 100);
        dueParts(tree, 0, 666667, 1333333);

        Sentence.says("what is left, D minus the sum of these parts, is given out in ones,");
        tree = star(17, 0, 0, 0, 0, 0, 0, 0, 0, 0);
        dueParts(tree, 0, 2, 2, 2, 2, 2, 2, 2, 2, 1);
        tree.setAll(0, 0, 8);
        dueParts(tree, 0, 1, 1, 1, 1, 1, 1, 1, 1, 0);
        tree.setAll(0, 0, 10);
        dueParts(tree, 0, 2, 1, 1, 1, 1, 1, 1, 1, 1);
        tree.setAll(0, 0, 9);
        dueParts(tree, 0, 1, 1, 1, 1, 1, 1, 1, 1, 1);

        Sentence.says("to the children with the greatest remainders of these divisions,");
        // 10 by 1 : 2 : 4 is 1 3/7, 2 6/7, 5 5/7.
        tree = star(10, 0, 0, 0);
        weights(tree, 1, 2, 4);
        dueParts(tree, 0, 1, 3, 6);
        // 9 by 1 : 2 : 4 is 1 2/7, 2 4/7, 5 1/7.
        tree.setAll(0, 0, 9);
        dueParts(tree, 0, 1, 3, 5);
        // 11 by 4 : 2 : 1 is 6 2/7, 3 1/7, 1 4/7.
        weights(tree, 4, 2, 1);
        tree.setAll(0, 0, 11);
        dueParts(tree, 0, 6, 3, 2);

        Sentence.says("of equal ones to the lowest numbers.");
        tree = star(10, 0, 0, 0);
        dueParts(tree, 0, 4, 3, 3);
        tree.setAll(0, 0, 11);
        dueParts(tree, 0, 4, 4, 3);
        // 3 by 1 : 4 : 1 is 1/2, 2, 1/2.
        weights(tree, 1, 4, 1);
        tree.setAll(0, 0, 3);
        dueParts(tree, 0, 1, 2, 0);
        // 3 by 4 : 1 : 1 is 2, 1/2, 1/2.
        weights(tree, 4, 1, 1);
        dueParts(tree, 0, 2, 1, 0);
    }

    private static void signs() {
        Sentence.says("If d is negative, all parts are negative.");
        dueParts(star(10, 4, 4, 4), 0, -1, -1, 0);
        dueParts(star(11, 4, 4, 4), 0, -1, 0, 0);
        dueParts(star(0, 4, 4, 4), 0, -4, -4, -4);
        dueParts(star(9, 1, 2, 7), 0, 0, 0, -1);

        Sentence.says("The billed energy of c is its energy plus its part.");
        dueBilled(star(100, 60, 30), 100, 67, 33);
        dueBilled(star(10, 4, 4, 4), 10, 3, 3, 4);
        dueBilled(star(12, 4, 4, 4), 12, 4, 4, 4);

        Sentence.says("(So the billed energy of p is the sum of those of its children.");
        for (int interval = 0; interval < 12; interval++) {
            MeterTree tree = manifold();
            for (int meter : new int[] {0, 1, 2, 4}) {
                long sum = 0;
                for (int index = 0; index < tree.meter(meter, 5); index++) {
                    sum += tree.billed(tree.child(meter, index), interval);
                }
                Sentence.due("the children of " + meter + " in " + interval, sum, tree.billed(meter, interval));
            }
        }

        Sentence.says("It can be negative.)");
        // 199 by 100 : 10000 is 1.97 and 197.03.
        MeterTree tree = Checks.tree(0, 0, 0, 2, 2);
        tree.setAll(0, 0, 1);
        tree.setAll(1, 0, 100);
        tree.setAll(2, 0, 100);
        tree.setMeter(2, 1, 100);
        dueBilled(tree, 1, 98, -97, -49, -48);
    }

    /** Ten meters at several depths, with energies that differ from meter to meter and hour to hour. */
    private static MeterTree manifold() {
        MeterTree tree = Checks.tree(0, 0, 0, 1, 1, 1, 2, 2, 4, 4);
        for (int meter = 0; meter < 10; meter++) {
            tree.setMeter(meter, 1 + 7 * meter % 5, 1 + 11 * meter % 13);
            Sentence.raws(tree, meter, 40 - meter, 33, 27 + meter, 31 * meter, 5, 77, 7 * meter, 100, 99 - meter, 0, 1, 3);
        }
        return tree;
    }

    private static void bills() {
        Sentence.says("The bill of a meter is the sum of its billed energies over all intervals.");
        MeterTree tree = star(10, 0, 0, 0);
        Sentence.raws(tree, 0, 1, 2, 3, 4, 5, 6, 7, 8, 9, 10, 11, 12);
        // 1, 2 and 0 modulo 3: the sums of (i + 2) / 3, (i + 1) / 3 and i / 3 for i from 1 to 12.
        int[] bills = {78, 30, 26, 22};
        tree.revise();
        for (int meter = 0; meter < 4; meter++) {
            Sentence.due("day(" + meter + ", 2)", tree.day(meter, 2), bills[meter]);
            Sentence.due("billOf(0, " + meter + ")", tree.billOf(0, meter), bills[meter]);
        }
    }

    private static void shares() {
        Sentence.says("Its share is the float (float) bill / (float) (bill of the main meter),");
        MeterTree tree = star(3, 0, 0);
        weights(tree, 1, 2);
        Sentence.due("one third", tree.shareBits(1), 0x3EAAAAAB);
        Sentence.due("two thirds", tree.shareBits(2), 0x3F2AAAAB);
        Sentence.due("the whole", tree.shareBits(0), 0x3F800000);
        // Bills beyond the 24 bits of a float, each rounded before the division.
        for (int step = 0; step < 20; step++) {
            tree = great(577777 + step, 333333 - 7 * step);
            float whole = (float) tree.day(0, 2);
            for (int meter = 0; meter < 3; meter++) {
                float share = (float) tree.day(meter, 2) / whole;
                Sentence.due("a share of " + tree.day(meter, 2), tree.shareBits(meter), Float.floatToIntBits(share));
            }
        }

        Sentence.says("or 0.0f if the latter is 0.");
        tree = star(0, 5, 7);
        Sentence.due("shareBits(0)", tree.shareBits(0), 0);
        Sentence.due("shareBits(1)", tree.shareBits(1), 0);
        Sentence.due("share(2)", tree.share(2), 0);
        // The bill of child 1 is not 0 here.
        tree = star(0, 100, 100);
        weights(tree, 1, 100);
        Sentence.due("day(1, 2)", tree.day(1, 2), 98 * 12);
        Sentence.due("shareBits(1)", tree.shareBits(1), 0);
        Sentence.due("share(1)", tree.share(1), 0);
    }

    /** A main meter and two children with bills far above two to the 24. */
    private static MeterTree great(int main, int child) {
        MeterTree tree = Checks.tree(0, 0, 0);
        int[] advances = {main, child, child - 50000};
        int[] multipliers = {99, 77, 51};
        for (int meter = 0; meter < 3; meter++) {
            tree.setRegister(meter, 6, 50000);
            tree.setMeter(meter, multipliers[meter], 1 + meter);
            tree.setReading(meter, 0, 0);
            tree.setReading(meter, 12, advances[meter]);
        }
        Sentence.due("the bill of the main meter", tree.day(0, 2), 99L * main);
        return tree;
    }

    /** Nine children with the greatest energies below a main meter with none. */
    private static MeterTree nineGreat() {
        MeterTree tree = star(0, 50000, 50000, 50000, 50000, 50000, 50000, 50000, 50000, 50000);
        for (int child = 1; child < 10; child++) {
            tree.setMeter(child, 100, 1);
        }
        return tree;
    }

    private static void imbalances() {
        Sentence.section("Suspicion");
        Sentence.says("The imbalance of a meter with children is the sum of the absolute values of its losses.");
        MeterTree tree = star(100, 100);
        Sentence.due("no losses", tree.imbalance(0), 0);
        Sentence.raws(tree, 1, 100, 90, 120, 100, 99, 100, 100, 101, 100, 100, 100, 100);
        Sentence.due("losses of 10, -20, 1, -1", tree.imbalance(0), 32);
        Sentence.due("without the grandchild", Sentence.family().imbalance(0), 120);
        Sentence.due("imbalance(1)", Sentence.family().imbalance(1), 60);
        Sentence.due("the greatest", nineGreat().imbalance(0), 540000000);
    }

    private static void factors() {
        Sentence.says("There are eight factors, by their numbers: 0: 1/10, 1: 1/5, 2: 1/4, 3: 1/2, 4: 2, 5: 4, 6: 5, 7: 10.");
        MeterTree tree = star(1000, 100);
        int[] losses = {990, 980, 975, 950, 800, 600, 500, 0};
        for (int factor = 0; factor < 8; factor++) {
            Sentence.due("imbalanceWith(0, 0, " + factor + ")", tree.imbalanceWith(0, 0, factor), 12 * losses[factor]);
        }
        Sentence.due("a factor 8", tree.imbalanceWith(0, 0, 8), Checks.BAD_VALUE);

        Sentence.says("For a child and a factor, the imbalance with it is found with each energy of this child times the factor instead, rounded down.");
        int[] ofNineteen = {1, 3, 4, 9, 38, 76, 95, 190};
        int[] ofNine = {0, 1, 2, 4, 18, 36, 45, 90};
        // The energies 1 to 12, each one rounded down by itself.
        int[] ofAll = {3, 11, 15, 36, 156, 312, 390, 780};
        tree = star(0, 0);
        Sentence.raws(tree, 1, 1, 2, 3, 4, 5, 6, 7, 8, 9, 10, 11, 12);
        for (int factor = 0; factor < 8; factor++) {
            Sentence.due("19, factor " + factor, star(0, 19).imbalanceWith(0, 0, factor), 12 * ofNineteen[factor]);
            Sentence.due("9, factor " + factor, star(0, 9).imbalanceWith(0, 0, factor), 12 * ofNine[factor]);
            Sentence.due("1 to 12, factor " + factor, tree.imbalanceWith(0, 0, factor), ofAll[factor]);
        }
        Sentence.due("only this child", star(100, 10, 20).imbalanceWith(0, 1, 4), 12 * 50);
        Sentence.due("only this child", star(100, 10, 20).imbalanceWith(0, 0, 4), 12 * 60);
        Sentence.due("the greatest", nineGreat().imbalanceWith(0, 8, 7), 1080000000);
    }

    private static void suspects() {
        Sentence.says("The suspect of a meter with children is the child with the factor for which that is least,");
        int[] mains = {4, 8, 10, 20, 80, 160, 200, 400};
        for (int factor = 0; factor < 8; factor++) {
            Sentence.due("factor " + factor, star(mains[factor], 40).suspect(0), 10 + factor);
            Sentence.due("factor " + factor + " of the second child", star(7 + mains[factor], 7, 40).suspect(0), 20 + factor);
            Sentence.due("factor " + factor + " and a little", star(7 + mains[factor], 6, 40).suspect(0), 20 + factor);
        }

        // Half of the grandchild's energy would mend all, but it is no child.
        MeterTree deep = Checks.tree(0, 0, 1);
        deep.setAll(0, 0, 100);
        deep.setAll(1, 0, 150);
        deep.setAll(2, 0, 100);
        Sentence.due("the grandchild", deep.energy(2, 0), 100);
        Sentence.due("no child", deep.suspect(0), Checks.NONE);

        Sentence.says("of several the lowest child,");
        Sentence.due("half of either one", star(30, 20, 20).suspect(0), 13);
        Sentence.due("half of the first, a tenth of the second", star(19, 18, 10).suspect(0), 13);
        Sentence.due("of three", star(50, 0, 20, 20, 20).suspect(0), 23);

        Sentence.says("then the lowest factor;");
        Sentence.due("a tenth, a fifth or a quarter", star(0, 3).suspect(0), 10);
        Sentence.due("a fifth or a quarter", star(1, 7).suspect(0), 11);

        Sentence.says("there is none if the least imbalance, times 4, is not less than the imbalance.");
        Sentence.due("12 and 3", star(20, 30, 2).suspect(0), Checks.NONE);
        Sentence.due("13 and 3", star(20, 31, 2).suspect(0), 13);
        Sentence.due("no imbalance", star(30, 10, 20).suspect(0), Checks.NONE);
        Sentence.due("nothing to multiply", star(5, 0).suspect(0), Checks.NONE);
        Sentence.due("no readings", Sentence.pair().suspect(0), Checks.NONE);
        for (int own = 30; own <= 31; own++) {
            MeterTree tree = star(0, 0, 0);
            tree.setReading(0, 0, 999980);
            tree.setReading(1, 0, 1000000 - own);
            tree.setReading(2, 0, 999998);
            Sentence.due("in one interval", tree.imbalance(0), own - 18);
            Sentence.due("3 and " + (own - 18), tree.suspect(0), own == 30 ? Checks.NONE : 13);
        }
    }

    private static void promise21() {
        Sentence.section("Promise 21: billed");
        Sentence.says("Returns the billed energy of a meter.", "Returns the billed energy;", "`interval`: 0 to 11");
        MeterTree tree = star(10, 0, 0, 0);
        Sentence.raws(tree, 0, 1, 2, 3, 4, 5, 6, 7, 8, 9, 10, 11, 12);
        for (int interval = 0; interval < 12; interval++) {
            for (int meter = 0; meter <= 3; meter++) {
                int due = meter == 0 ? interval + 1 : (interval + 4 - meter) / 3;
                Sentence.due("billed(" + meter + ", " + interval + ")", tree.billed(meter, interval), due);
            }
        }
        Sentence.due("billed(3, 0) as the first call", Sentence.family().billed(3, 0), 67);
        Sentence.onlyAsks("billed(3, 5)", Sentence::family, one -> one.billed(3, 5));

        Sentence.says("BAD_INDEX if there is no such meter or interval.", "`meter`: number of the meter");
        Sentence.refused("billed(0, 0)", MeterTree::new, one -> one.billed(0, 0), Checks.BAD_INDEX);
        for (int meter : Sentence.outside(0, 3)) {
            Sentence.refused("billed(" + meter + ", 0)", Sentence::family, one -> one.billed(meter, 0), Checks.BAD_INDEX);
        }
        for (int interval : Sentence.outside(0, 11)) {
            Sentence.refused("billed(3, " + interval + ")", Sentence::family, one -> one.billed(3, interval), Checks.BAD_INDEX);
        }
    }

    private static void promise22() {
        Sentence.section("Promise 22: part");
        Sentence.says("Returns the part that a meter got.", "Returns its billed energy minus its energy;", "`interval`: 0 to 11");
        MeterTree tree = star(10, 2, 0, 5);
        Sentence.raws(tree, 0, 1, 2, 3, 4, 5, 6, 7, 8, 9, 10, 11, 12);
        for (int interval = 0; interval < 12; interval++) {
            Sentence.due("part(0, " + interval + ") of the main meter", tree.part(0, interval), 0);
            Sentence.due("part(2, " + interval + ")", tree.part(2, interval), 0);
            int rest = interval + 1 - 7 - tree.part(1, interval);
            Sentence.due("part(3, " + interval + ")", tree.part(3, interval), rest);
        }
        // 6 by 2 : 5 is 1 5/7 and 4 2/7, 5 by 2 : 5 is 1 3/7 and 3 4/7.
        Sentence.due("part(1, 0)", tree.part(1, 0), -2);
        Sentence.due("part(1, 11)", tree.part(1, 11), 1);
        Sentence.due("part(3, 0) as the first call", Sentence.family().part(3, 0), 12);
        Sentence.onlyAsks("part(3, 5)", Sentence::family, one -> one.part(3, 5));

        Sentence.says("BAD_INDEX if there is no such meter or interval.", "`meter`: number of the meter");
        Sentence.refused("part(0, 0)", MeterTree::new, one -> one.part(0, 0), Checks.BAD_INDEX);
        for (int meter : Sentence.outside(0, 3)) {
            Sentence.refused("part(" + meter + ", 0)", Sentence::family, one -> one.part(meter, 0), Checks.BAD_INDEX);
        }
        for (int interval : Sentence.outside(0, 11)) {
            Sentence.refused("part(3, " + interval + ")", Sentence::family, one -> one.part(3, interval), Checks.BAD_INDEX);
        }
    }

    /** A main meter with a bill of 1, and two children with bills far from 0, one below it. */
    private static MeterTree apart() {
        MeterTree tree = star(0, 50000, 50000);
        tree.setReading(0, 12, 1);
        tree.setMeter(1, 100, 1);
        tree.setMeter(2, 100, 100);
        return tree;
    }

    private static void promise23() {
        Sentence.section("Promise 23: shareBits");
        Sentence.says("Returns the share of a meter.", "Returns Float.floatToIntBits of its share;");
        MeterTree tree = star(100, 0, 25, 75);
        int[] bits = {0x3F800000, 0, 0x3E800000, 0x3F400000};
        for (int meter = 0; meter < 4; meter++) {
            Sentence.due("shareBits(" + meter + ")", tree.shareBits(meter), bits[meter]);
        }
        tree = star(1, 100, 100);
        weights(tree, 1, 100);
        Sentence.due("98 times", tree.shareBits(1), 0x42C40000);
        Sentence.due("-97 times", tree.shareBits(2), 0xC2C20000);
        for (int main = 1; main <= 100; main++) {
            tree = star(main, 100, 100);
            weights(tree, 1, 100);
            for (int meter = 1; meter <= 2; meter++) {
                int bill = tree.day(meter, 2);
                Sentence.due(bill + " of " + 12 * main, tree.shareBits(meter), Float.floatToIntBits((float) bill / (float) (12 * main)));
            }
        }
        tree = apart();
        Sentence.due("the bill of the main meter", tree.day(0, 2), 1);
        for (int meter = 1; meter <= 2; meter++) {
            int bill = tree.day(meter, 2);
            Sentence.due("a bill above 50000000", bill < 0 ? -bill / 50000000 : bill / 50000000, 1);
            Sentence.due(bill + " times", tree.shareBits(meter), Float.floatToIntBits((float) bill));
        }
        // One of 60000000.
        tree = star(50000, 0, 50000);
        tree.setMeter(0, 100, 1);
        tree.setMeter(2, 100, 1);
        tree.setReading(1, 12, 1);
        Sentence.due("the least bill", tree.day(1, 2), 1);
        Sentence.due("the least share", tree.shareBits(1), Float.floatToIntBits(1.0f / 60000000.0f));
        for (int own = 0; own <= 100; own++) {
            tree = star(100, own, 100 - own);
            Sentence.due(own + " of 100", tree.shareBits(1), Float.floatToIntBits((float) (12 * own) / 1200.0f));
        }
        Sentence.onlyAsks("shareBits(3)", Sentence::family, one -> one.shareBits(3));

        Sentence.says("BAD_INDEX if there is no such meter.", "`meter`: number of the meter");
        Sentence.refused("shareBits(0)", MeterTree::new, one -> one.shareBits(0), Checks.BAD_INDEX);
        for (int meter : Sentence.outside(0, 3)) {
            Sentence.refused("shareBits(" + meter + ")", Sentence::family, one -> one.shareBits(meter), Checks.BAD_INDEX);
        }
    }

    private static void promise24() {
        Sentence.section("Promise 24: share");
        Sentence.says("Returns the share of a meter in thousandths.", "Returns (int) (share * 1000.0f);");
        MeterTree tree = star(3, 0, 0);
        weights(tree, 1, 2);
        Sentence.due("the whole", tree.share(0), 1000);
        Sentence.due("one third", tree.share(1), 333);
        Sentence.due("two thirds", tree.share(2), 666);
        for (int own = 0; own <= 100; own++) {
            tree = star(100, own, 100 - own);
            Sentence.due(own + " of 100", tree.share(1), (int) ((float) (12 * own) / 1200.0f * 1000.0f));
        }
        // 197 by 1 : 100 is 1.95 and 195.05, so the bills are 98 and -95 of 3, and the cast goes towards 0.
        tree = star(3, 100, 100);
        weights(tree, 1, 100);
        Sentence.due("98 thirds", tree.share(1), 32666);
        Sentence.due("-95 thirds", tree.share(2), -31666);
        tree = apart();
        Sentence.due("beyond the greatest int", tree.share(1), Integer.MAX_VALUE);
        Sentence.due("beyond the least int", tree.share(2), Integer.MIN_VALUE);
        Sentence.due("a main meter with a bill of 0", star(0, 5, 7).share(0), 0);
        Sentence.onlyAsks("share(3)", Sentence::family, one -> one.share(3));

        Sentence.says("BAD_INDEX if there is no such meter.", "`meter`: number of the meter");
        Sentence.refused("share(0)", MeterTree::new, one -> one.share(0), Checks.BAD_INDEX);
        for (int meter : Sentence.outside(0, 3)) {
            Sentence.refused("share(" + meter + ")", Sentence::family, one -> one.share(meter), Checks.BAD_INDEX);
        }
    }

    private static void promise25() {
        Sentence.section("Promise 25: imbalance");
        Sentence.says("Returns the imbalance of a meter.", "Returns the imbalance;");
        MeterTree tree = star(100, 60, 60);
        Sentence.due("imbalance(0)", tree.imbalance(0), 240);
        Sentence.due("imbalance(0) without readings", Sentence.pair().imbalance(0), 0);
        Sentence.onlyAsks("imbalance(0)", Sentence::family, one -> one.imbalance(0));

        Sentence.says("NONE for a leaf;");
        Sentence.due("imbalance(1)", tree.imbalance(1), Checks.NONE);
        Sentence.due("imbalance(0) of the only meter", Checks.tree(0).imbalance(0), Checks.NONE);

        Sentence.says("BAD_INDEX if there is no such meter.", "`meter`: number of the meter");
        Sentence.refused("imbalance(0)", MeterTree::new, one -> one.imbalance(0), Checks.BAD_INDEX);
        for (int meter : Sentence.outside(0, 3)) {
            Sentence.refused("imbalance(" + meter + ")", Sentence::family, one -> one.imbalance(meter), Checks.BAD_INDEX);
        }
    }

    private static void promise26() {
        Sentence.section("Promise 26: imbalanceWith");
        Sentence.says("Returns the imbalance of a meter with a factor for a child.", "Returns the imbalance with it;");
        MeterTree tree = Sentence.family();
        Sentence.due("imbalanceWith(0, 0, 3)", tree.imbalanceWith(0, 0, 3), 12 * 40);
        Sentence.due("imbalanceWith(0, 1, 4)", tree.imbalanceWith(0, 1, 4), 12 * 20);
        Sentence.due("imbalanceWith(1, 0, 4)", tree.imbalanceWith(1, 0, 4), 12 * 50);
        Sentence.onlyAsks("imbalanceWith(0, 1, 4)", Sentence::family, one -> one.imbalanceWith(0, 1, 4));

        Sentence.says("`index`: the index of the child");
        tree = Checks.tree(0, 0, 1, 0, 1, 0);
        for (int meter = 0; meter < 6; meter++) {
            tree.setAll(meter, 0, 100 + meter);
        }
        int[] own = {101, 103, 105};
        for (int index = 0; index < 3; index++) {
            int due = 12 * Math.abs(100 - 101 - 103 - 105 - own[index]);
            Sentence.due("imbalanceWith(0, " + index + ", 4)", tree.imbalanceWith(0, index, 4), due);
        }
        Sentence.due("imbalanceWith(1, 1, 7)", tree.imbalanceWith(1, 1, 7), 12 * (102 + 1040 - 101));

        Sentence.says("`factor`: the number of the factor, 0 to 7");
        tree = star(1000, 100);
        int[] losses = {990, 980, 975, 950, 800, 600, 500, 0};
        for (int factor = 0; factor <= 7; factor++) {
            Sentence.due("imbalanceWith(0, 0, " + factor + ")", tree.imbalanceWith(0, 0, factor), 12 * losses[factor]);
        }
    }

    private static void promise26Errors() {
        Sentence.says("BAD_INDEX if there is no such meter or child;", "`meter`: number of the meter");
        Sentence.refused("imbalanceWith(0, 0, 0)", MeterTree::new, one -> one.imbalanceWith(0, 0, 0), Checks.BAD_INDEX);
        for (int meter : Sentence.outside(0, 3)) {
            Sentence.refused("imbalanceWith(" + meter + ", 0, 0)", Sentence::family, one -> one.imbalanceWith(meter, 0, 0), Checks.BAD_INDEX);
            Sentence.refused("imbalanceWith(" + meter + ", 0, 8)", Sentence::family, one -> one.imbalanceWith(meter, 0, 8), Checks.BAD_INDEX);
        }
        for (int index : Sentence.outside(0, 1)) {
            Sentence.refused("imbalanceWith(0, " + index + ", 0)", Sentence::family, one -> one.imbalanceWith(0, index, 0), Checks.BAD_INDEX);
            Sentence.refused("imbalanceWith(0, " + index + ", -1)", Sentence::family, one -> one.imbalanceWith(0, index, -1), Checks.BAD_INDEX);
        }
        Sentence.refused("imbalanceWith(1, 1, 0)", Sentence::family, one -> one.imbalanceWith(1, 1, 0), Checks.BAD_INDEX);
        Sentence.refused("imbalanceWith(2, 0, 0) of a leaf", Sentence::family, one -> one.imbalanceWith(2, 0, 0), Checks.BAD_INDEX);
        Sentence.refused("imbalanceWith(2, 0, 8) of a leaf", Sentence::family, one -> one.imbalanceWith(2, 0, 8), Checks.BAD_INDEX);

        Sentence.says("BAD_VALUE if factor is out of range.");
        for (int factor : Sentence.outside(0, 7)) {
            Sentence.refused("imbalanceWith(0, 1, " + factor + ")", Sentence::family, one -> one.imbalanceWith(0, 1, factor), Checks.BAD_VALUE);
        }
    }

    private static void promise27() {
        Sentence.section("Promise 27: suspect");
        Sentence.says("Returns the suspect of a meter.", "Returns 10 * (number of the child) + (number of the factor);");
        Sentence.due("child 9, factor 7", star(400, 0, 0, 0, 0, 0, 0, 0, 0, 40).suspect(0), 97);
        Sentence.due("child 9, factor 0", star(4, 0, 0, 0, 0, 0, 0, 0, 0, 40).suspect(0), 90);
        MeterTree tree = Checks.tree(0, 0, 0, 2, 2);
        tree.setAll(2, 0, 87);
        tree.setAll(3, 0, 7);
        tree.setAll(4, 0, 40);
        Sentence.due("suspect(2), by the numbers of the meters", tree.suspect(2), 44);
        Sentence.onlyAsks("suspect(0)", Sentence::family, one -> one.suspect(0));

        Sentence.says("NONE if there is none, or for a leaf;");
        Sentence.due("suspect(0) that is balanced", star(30, 10, 20).suspect(0), Checks.NONE);
        Sentence.due("suspect(1) of a leaf", star(30, 10, 20).suspect(1), Checks.NONE);
        Sentence.due("suspect(0) of the only meter", Checks.tree(0).suspect(0), Checks.NONE);

        Sentence.says("BAD_INDEX if there is no such meter.", "`meter`: number of the meter");
        Sentence.refused("suspect(0)", MeterTree::new, one -> one.suspect(0), Checks.BAD_INDEX);
        for (int meter : Sentence.outside(0, 3)) {
            Sentence.refused("suspect(" + meter + ")", Sentence::family, one -> one.suspect(meter), Checks.BAD_INDEX);
        }
    }
}
