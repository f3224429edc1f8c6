/** The bounds of Terms 6, and of promise 11, sentence by sentence. */
public final class EdgeHomesTest {
    public static void main(String[] args) {
        byFirstPoints();
        freeAsOneEnds();
        notFreeOnePointLonger();
        crossingOnlyKept();
        keptForOthersToo();
        likedByMove();
        likedIsNotFree();
        likedIsNotKept();
        likedIsSpilled();
        likedAtTheFirstPoint();
        likedByTwo();
        likedIsReadFirst();
        otherwiseTheSmallest();
        leastWeightItself();
        leastWeightAnother();
        greatestNumberItself();
        greatestNumberAnother();
        thoseThatEndBehind();
        registersThatItCouldHave();
        spilledForAllItsLife();
        remadeByOneLi();
        notRemadeByTwo();
        notRemadeByAnother();
        slotInCommon();
        slotSmallest();
        slotsByFirstPoints();
        frameMadeEven();
        frameOfKeptInUse();
        manyOfNone();
        Due.end();
    }

    private static SpillslotWorks with(SpillslotWorks x, int registers, int kept, boolean isTwo) {
        x.machine(registers, kept, 15, true, isTwo);
        return x;
    }

    private static void registers(String name, SpillslotWorks x, int... valuesAndRegisters) {
        for (int k = 0; k < valuesAndRegisters.length; k += 2) {
            Due.is(name + ": REGISTER of " + valuesAndRegisters[k],
                    x.ofValue(valuesAndRegisters[k], 3), valuesAndRegisters[k + 1]);
        }
    }

    private static void byFirstPoints() {
        Due.says("REGISTERS are given LIFE by LIFE, by first POINTS, then by numbers.");
        SpillslotWorks x = Told.program(42, "0: v5 = 1", "1: v3 = 2", "2: v1 = 3");
        registers("v5 begins first", x, 5, 0, 3, 1, 1, 2);
    }

    private static void freeAsOneEnds() {
        Due.says("Free are those from 0 to S - 1 that no LIFE has that ends behind the first POINT "
                + "of this one");
        SpillslotWorks x = Told.program(0, "0: v3 = v1 - v2", "1: v4 = v3 + v3");
        registers("v1 and v2 end as v3 begins, and v3 as v4 does", x, 1, 0, 2, 1, 3, 0, 4, 0);
        Told.many("none is SPILLED", with(x, 5, 0, false), 5, 0);
    }

    private static void notFreeOnePointLonger() {
        Due.says("that no LIFE has that ends behind the first POINT of this one");
        SpillslotWorks x = Told.program(0, "0: v3 = v1 - v2", "1: v4 = v3 + v1");
        registers("v1 ends one POINT later", x, 1, 0, 2, 1, 3, 1, 4, 0);
        SpillslotWorks y = Told.program(0, "0: v3 = v1 - v2", "1: v4 = v3 + v2");
        registers("v2 ends one POINT later", y, 1, 0, 2, 1, 3, 0, 4, 0);
    }

    private static void crossingOnlyKept() {
        Due.says("one that CROSSES a CALL can only have a KEPT one");
        SpillslotWorks x = Told.program(4, "0: v1 = c(v3, v3)", "1: v2 = v2 + 1");
        // POINTS: 0 v2, 1 v3, 2 CALL, 3 ADDI; v2 CROSSES, v3 does not.
        registers("2 is the smallest KEPT one", x, 2, 2, 3, 0, 1, 0);
        registers("4 alone is KEPT", with(x, 8, 16, false), 2, 4, 3, 0, 1, 0);
        registers("7 alone is KEPT", with(x, 11, 128, false), 2, 7, 3, 0, 1, 0);
        registers("none is KEPT, and seven are free", with(x, 11, 0, false), 2, -1, 3, 0, 1, 0);
    }

    private static void keptForOthersToo() {
        Due.says("otherwise the smallest");
        SpillslotWorks x = Told.program(31, "0: v1 = 1");
        registers("those that cross nothing can have KEPT ones", with(x, 8, 28, false), 0, 0, 2, 1,
                3, 2, 4, 3, 1, 4);
    }

    private static void likedByMove() {
        Due.says("that of the VALUE that is read first by the instruction that writes it at its "
                + "first POINT (MOVE always");
        SpillslotWorks x = Told.program(0, "0: v4 = v1", "1: v5 = v3", "2: v6 = v2");
        // 0 is free behind POINT 3, but the MOVES like 0, 2 and 1.
        registers("MOVE", x, 1, 0, 2, 1, 3, 2, 4, 0, 5, 2, 6, 1);
        registers("MOVE with TWO", with(x, 8, 28, true), 4, 0, 5, 2, 6, 1);
    }

    private static void likedIsNotFree() {
        Due.says("if that is one of them; otherwise the smallest");
        SpillslotWorks x = Told.program(0, "0: v4 = v1", "1: v5 = v3", "2: v6 = v3");
        // POINTS: 0 v1, 1 v3, 2 v4, 3 v5, 4 v6.
        registers("v3 ends behind v5's first POINT", x, 1, 0, 3, 1, 4, 0, 5, 0, 6, 1);
    }

    private static void likedIsNotKept() {
        Due.says("if that is one of them; otherwise the smallest");
        SpillslotWorks x = Told.program(0, "0: v2 = v1", "1: v5 = c(v3, v3)", "2: v6 = v2");
        // POINTS: 0 v1, 1 v3, 2 MOVE v2, 3 CALL v5, 4 MOVE v6.
        registers("v2 CROSSES, and can't have v1's", x, 1, 0, 3, 1, 2, 2, 5, 0, 6, 2);
        Told.codeFrom(2, "the MOVE stays", x, "2 MOVE 2 0", "3 MOVE 0 1", "3 CALL");
    }

    private static void likedIsSpilled() {
        Due.says("if that is one of them; otherwise the smallest");
        SpillslotWorks x = Told.program(0, "0: v2 = c(v3, v4)", "1: v1 = v3", "1: v5 = v4");
        // POINTS: 0 v3, 1 v4, 2 CALL v2, 3 v1, 4 v5.
        registers("both CROSS, and none is KEPT", with(x, 8, 0, false), 3, -1, 4, -1, 2, 0, 1, 0,
                5, 0);
    }

    private static void likedAtTheFirstPoint() {
        Due.says("by the instruction that writes it at its first POINT");
        SpillslotWorks x = Told.program(2, "0: v3 = v4", "1: v1 = 9", "2: v1 = v2");
        // POINTS: 0 v2, 1 v4, 2 MOVE v3, 3 LI v1, 4 MOVE v1.
        registers("v1 is first written by an LI", x, 2, 0, 4, 1, 3, 1, 1, 1);
    }

    private static void likedByTwo() {
        Due.says("and, if the machine is TWO, ADD, SUB and MUL");
        String[] trees = {"v2 + v2", "v2 - v2", "v2 * v2", "v2 + 3", "v2 - 3", "v2 * v2 + v2",
            "c(v2, v2)", "v2"};
        int[] two = {1, 1, 1, 0, 0, 0, 0, 1};
        int[] three = {0, 0, 0, 0, 0, 0, 0, 1};
        for (int k = 0; k < trees.length; k++) {
            // v1 has 0, and ends as v5 begins and ends; v2 has 1, and ends as v6 begins.
            SpillslotWorks x = Told.program(0, "0: v5 = v1", "1: v6 = " + trees[k]);
            registers("TWO, " + trees[k], with(x, 8, 28, true), 1, 0, 2, 1, 5, 0, 6, two[k]);
            registers("not TWO, " + trees[k], with(x, 8, 28, false), 1, 0, 2, 1, 5, 0, 6,
                    three[k]);
        }
    }

    private static void likedIsReadFirst() {
        Due.says("that of the VALUE that is read first");
        SpillslotWorks x = Told.program(0, "0: v5 = v1", "1: v6 = v2 + v3", "2: v7 = v2");
        // v3 ends as v6 begins, v2 does not: 0 is free, and so is v3's, but that is read second.
        registers("v3's is not liked", with(x, 8, 28, true), 1, 0, 2, 1, 3, 2, 5, 0, 6, 0);
    }

    private static void otherwiseTheSmallest() {
        Due.says("otherwise the smallest");
        SpillslotWorks x = Told.program(0, "0: v5 = v1 - v2", "1: v6 = 7", "2: v7 = v3 - v4");
        // v1 to v4 have 0 to 3; 0 and 1 are free from POINT 4 on, and v5 ends there.
        registers("0 of 0, 1 and 4", x, 5, 0, 6, 0, 7, 0);
    }

    private static void leastWeightItself() {
        Due.says("the one with the least WEIGHT, of several that with the greatest number, is "
                + "SPILLED");
        SpillslotWorks x = with(Told.program(2, "0: v1 = v2 * v3 + v2", "1: v4 = v3 * v2 + v3"),
                5, 0, false);
        Told.value("v2", x, 2, 0, 3, 100, 0, -1, 0, 0, 4);
        Told.value("v3", x, 3, 1, 3, 133, 1, -1, 0, 0, 4);
        Told.value("v1 weighs the least itself", x, 1, 2, 4, 33, -1, 0, 0, 0, 1);
        Told.value("v4", x, 4, 3, 3, 100, 0, -1, 0, 0, 1);
    }

    private static void leastWeightAnother() {
        Due.says("if that is another one, its REGISTER is given");
        SpillslotWorks x = with(Told.program(0, "0: v1 = v2 - v3", "1: v4 = v1 - v3",
                "2: v5 = v4 - v2"), 5, 0, false);
        // v2 0 to 4: 300 / 5; v3 1 to 3: 300 / 3; v1 2 to 3: 200 / 2.
        Told.value("v2 weighs the least", x, 2, 0, 4, 60, -1, -1, 1, 0, 3);
        Told.value("v3", x, 3, 1, 3, 100, 1, -1, 0, 0, 3);
        Told.value("v1 has v2's", x, 1, 2, 3, 100, 0, -1, 0, 0, 2);
        Told.value("v4", x, 4, 3, 4, 100, 0, -1, 0, 0, 2);
    }

    private static void greatestNumberItself() {
        Due.says("of several that with the greatest number");
        SpillslotWorks x = with(Told.program(0, "0: v4 = v1", "1: v5 = v2", "2: v6 = v3"), 5, 0,
                false);
        registers("v1, v2 and v3 weigh 50 each", x, 1, 0, 2, 1, 3, -1);
        for (int value = 1; value < 4; value++) {
            Due.is("WEIGHT of v" + value, x.ofValue(value, 2), 50);
        }
    }

    private static void greatestNumberAnother() {
        Due.says("of several that with the greatest number");
        SpillslotWorks x = with(Told.program(0, "0: v7 = 20", "0: v3 = 30", "0: v1 = 40",
                "0: v2 = v7", "1: v2 = v3", "2: v2 = v1"), 5, 0, false);
        // POINTS: 0 v7, 1 v3, 2 v1, 3 v2 by v7, 4 by v3, 5 by v1; v2 weighs 100.
        registers("v7 for v1, though the first, then v3 for v2", x, 7, -1, 1, 0, 3, -1, 2, 1);
        for (int value : new int[] {1, 3, 7}) {
            Due.is("WEIGHT of v" + value, x.ofValue(value, 2), 50);
        }
        SpillslotWorks y = with(Told.program(0, "0: v3 = 20", "0: v7 = 30", "0: v1 = 40",
                "0: v2 = v3", "1: v2 = v7", "2: v2 = v1"), 5, 0, false);
        registers("v7 it is, though the second", y, 3, 0, 7, -1, 1, 1);
    }

    private static void thoseThatEndBehind() {
        Due.says("and of those LIVES that end behind its first POINT");
        SpillslotWorks x = Told.program(0, "0: v0 = 1", "1: v5 = 4", "1: v6 = 5", "2: v7 = v0",
                "3: v1 = 2", "3: v2 = 3", "3: v3 = 4", "3: v4 = v1 * v2 + v3");
        x.times(3, 9);
        with(x, 5, 0, false);
        Told.value("v0 had 0, weighs the least of all, and has ended", x, 0, 0, 3, 50, 0);
        Told.value("v5 had 1, and has ended", x, 5, 1, 1, 100, 1);
        Told.value("v1 is SPILLED", x, 1, 4, 7, 450, -1, -1, 1);
        Told.value("v2", x, 2, 5, 7, 600, 1);
        Told.value("v3 has v1's", x, 3, 6, 7, 900, 0);
        Told.value("v4, as v2 and v3 end", x, 4, 7, 7, 900, 0);
    }

    private static void registersThatItCouldHave() {
        Due.says("have a REGISTER that it could have");
        SpillslotWorks x = with(Told.program(0, "0: v2 = 1", "0: v0 = 2", "0: v3 = 3",
                "1: v1 = c(v2, 5)", "2: v4 = v0 * v0 + v0", "3: v5 = v3 * v3"), 6, 4, false);
        // POINTS: 0 v2, 1 v0, 2 v3, 3 the LI of 5, 4 CALL, 5 FUSE, 6 MUL.
        Told.value("v2 weighs the least, and has one that v3 can't have", x, 2, 0, 4, 40, 0);
        Told.value("v0 has the KEPT one", x, 0, 1, 5, 80, 2, -1, 0, 1);
        Told.value("v3 is SPILLED itself", x, 3, 2, 6, 60, -1, -1, 1, 1);
        with(x, 6, 0, false);
        Told.value("v2, and none is KEPT", x, 2, 0, 4, 40, 0);
        Told.value("v0, and none is KEPT", x, 0, 1, 5, 80, -1, -1, 1, 1);
        Told.value("v3, and none is KEPT", x, 3, 2, 6, 60, -1, -1, 1, 1);
        SpillslotWorks y = with(Told.program(1, "0: v1 = v2 + v3", "1: v4 = c(5, 6)",
                "2: v5 = v2 - v3"), 6, 4, false);
        // POINTS: 0 v0, 1 v2, 2 v3, 3 v1, 4 and 5 LIS, 6 CALL, 7 v5; END 8.
        Told.value("v0 had the KEPT one", y, 0, 0, 8, 11, -1, -1, 1, 1, 1);
        Told.value("v2 had it behind v0", y, 2, 1, 7, 42, -1, -1, 1, 1, 3);
        Told.value("v3 has it in the end", y, 3, 2, 7, 50, 2, -1, 0, 1, 3);
    }

    private static void spilledForAllItsLife() {
        Due.says("it has none (for all its LIFE)");
        SpillslotWorks x = with(Told.program(7, "0: v0 = 1", "1: v1 = 2", "2: v2 = 3"), 5, 0,
                false);
        Told.value("v0 is SPILLED as v2 begins", x, 0, 0, 3, 25, -1, -1, 1, 0, 1);
        Told.code("v0 had no LI either", x, "1 LI 1 2", "2 LI 0 3");
        Due.is("answer(0)", x.answer(0), 1);
        SpillslotWorks y = with(Told.program(7, "0: v0 = v0 - 1", "1: v7 = 1", "1: v7 = 2",
                "1: v7 = 3", "1: v7 = 4", "1: v7 = 5", "2: v1 = 6", "3: v2 = 7"), 5, 0, false);
        // v0: 300 / 10, v1: 100 / 3, v2: 100 / 2.
        Told.code("v0 was in its SLOT all the time", y, "0 LI 2 0", "0 STORE 2 0", "1 LOAD 2 0",
                "1 ADDI 2 2 -1", "1 STORE 2 0", "2 LI 1 1", "3 LI 1 2", "4 LI 1 3", "5 LI 1 4",
                "6 LI 1 5", "7 LI 1 6", "8 LI 0 7");
    }

    private static void remadeByOneLi() {
        Due.says("One that is SPILLED is REMADE, if it is written by one instruction alone, and "
                + "this is an LI");
        SpillslotWorks x = with(Told.program(6, "0: v1 = 999", "2: v0 = c(v2, v1)"), 5, 0, false);
        x.times(0, 9);
        Told.value("v1 of BLOCK 0, nine times", x, 1, 1, 3, 333, -1, -1, 1, 1, 2);
        Told.value("v2 of the ENTRY", x, 2, 0, 3, 50, -1, -1, 1, 1, 2);
        Told.many("REMADE ones", x, 6, 2);
        Told.many("SLOTS", x, 7, 0);
        Told.code("LI where they are read alone", x, "2 LI 0 0", "2 LI 1 999", "2 CALL");
        Due.is("answer(1)", x.answer(1), 999);
        Due.is("answer(2)", x.answer(2), 0);
    }

    private static void notRemadeByTwo() {
        Due.says("if it is written by one instruction alone");
        SpillslotWorks x = with(Told.program(6, "0: v1 = 5", "1: v1 = 5", "2: v0 = c(v2, v2)",
                "3: v2 = 0"), 5, 0, false);
        // v1 is written by two LIS, and so is v2, once in the ENTRY.
        Told.value("v1", x, 1, 1, 5, 40, -1, 1, 0, 1, 2);
        Told.value("v2", x, 2, 0, 5, 66, -1, 0, 0, 1, 4);
        Told.many("REMADE ones", x, 6, 0);
        Told.many("SLOTS", x, 7, 2);
        Due.is("answer(1)", x.answer(1), 5);
    }

    private static void notRemadeByAnother() {
        Due.says("and this is an LI; otherwise it has a SLOT");
        String[] trees = {"v3", "v3 + v3", "v3 + 1", "v3 * v3", "v3 * v3 + v3", "c(v3, v3)"};
        for (String tree : trees) {
            SpillslotWorks x = with(Told.program(2, "0: v1 = " + tree, "1: v2 = c(5, 6)"), 5, 0,
                    false);
            Due.is(tree + ": REGISTER", x.ofValue(1, 3), -1);
            Due.is(tree + ": SLOT", x.ofValue(1, 4), 0);
            Due.is(tree + ": REMADE", x.ofValue(1, 5), 0);
            Due.is(tree + ": answer(1)", x.answer(1), x.meant(1));
        }
    }

    private static void slotInCommon() {
        Due.says("have the smallest SLOT that none of those ahead has whose LIFE has a POINT in "
                + "common with its own");
        SpillslotWorks x = with(Told.program(0, "0: v1 = v7 * v7", "1: v2 = c(5, 6)",
                "2: v3 = v1 * v1", "3: v4 = c(5, 6)", "3: v5 = v3 * v3"), 5, 0, false);
        // v1 ends at the POINT at which v3 begins: one in common.
        Due.is("v1 ends where v3 begins", x.ofValue(1, 1), x.ofValue(3, 0));
        Due.is("SLOT of v1", x.ofValue(1, 4), 0);
        Due.is("SLOT of v3", x.ofValue(3, 4), 1);
        SpillslotWorks y = with(Told.program(0, "0: v1 = v7 * v7", "1: v2 = c(5, v1)",
                "1: v6 = v1 * v1", "2: v3 = v7 * v7", "3: v4 = c(5, 6)", "3: v5 = v3 * v3"), 5, 0,
                false);
        // v1 ends one POINT ahead of v3.
        Due.is("v1 ends one ahead of v3", y.ofValue(1, 1), y.ofValue(3, 0) - 1);
        Due.is("SLOT of v1 there", y.ofValue(1, 4), 0);
        Due.is("SLOT of v3 there", y.ofValue(3, 4), 0);
        Told.many("SLOTS there", y, 7, 1);
    }

    private static void slotSmallest() {
        Due.says("have the smallest SLOT");
        SpillslotWorks x = with(Told.program(4, "0: v1 = v7 * v7", "0: v2 = v7 * v7",
                "1: v0 = c(5, 6)", "1: v6 = v1 * v1", "2: v3 = v7 * v7", "3: v4 = c(5, 6)",
                "3: v5 = v3 * v3"), 5, 0, false);
        Due.is("SLOT of v1", x.ofValue(1, 4), 0);
        Due.is("SLOT of v2, to END", x.ofValue(2, 4), 1);
        Due.is("SLOT of v3, as v1 is no more", x.ofValue(3, 4), 0);
        Told.many("SLOTS", x, 7, 2);
    }

    private static void slotsByFirstPoints() {
        Due.says("SPILLED ones that are not REMADE, by first POINTS, then by numbers");
        SpillslotWorks x = with(Told.program(230, "0: v7 = v0 * v0", "0: v6 = 9", "0: v2 = v0 - v0",
                "0: v5 = v0 * v0", "1: v1 = c(5, 6)"), 5, 0, false);
        // MULS first, then the LI and the SUB; v6 is REMADE, and takes no SLOT.
        Due.is("SLOT of v7", x.ofValue(7, 4), 0);
        Due.is("SLOT of v5", x.ofValue(5, 4), 1);
        Due.is("SLOT of v6", x.ofValue(6, 4), -1);
        Due.is("SLOT of v2", x.ofValue(2, 4), 2);
        Told.many("SLOTS", x, 7, 3);
        Told.many("REMADE ones", x, 6, 1);
        Told.many("SPILLED ones", x, 5, 4);
    }

    private static void frameMadeEven() {
        Due.says("made even");
        SpillslotWorks x = Told.program(0, "0: v0 = c(5, 6)");
        for (int v = 1; v < 7; v++) {
            Told.statement(x, "1: v" + v + " = v" + v + " - v" + v);
            with(x, 5, 0, false);
            Told.many(v + " cross, none KEPT: SLOTS", x, 7, v);
            Told.many(v + " cross, none KEPT: words", x, 8, v + v % 2);
            with(x, 11, 252, false);
            Told.many(v + " cross, all KEPT: SLOTS", x, 7, 0);
            Told.many(v + " cross, all KEPT: words", x, 8, v + v % 2);
            with(x, 11, 128, false);
            Told.many(v + " cross, one KEPT: words", x, 8, v + v % 2);
        }
    }

    private static void frameOfKeptInUse() {
        Due.says("and REGISTERS that are KEPT and that some LIFE has in the end");
        SpillslotWorks x = Told.program(14, "0: v1 = 5");
        // v2 and v3 in the ENTRY, v1: 0, 1 and 2, and no CALL at all.
        Told.many("2 is in use, and KEPT", with(x, 8, 28, false), 8, 2);
        Told.many("2 is in use, 3 and 4 are KEPT", with(x, 8, 24, false), 8, 0);
        Told.many("none is KEPT", with(x, 8, 0, false), 8, 0);
        x.out(30);
        Told.many("2 and 3 are in use, and KEPT", with(x, 8, 28, false), 8, 2);
        x.out(31);
        Told.many("2, 3 and 4 are in use, and KEPT", with(x, 8, 28, false), 8, 4);
        SpillslotWorks y = Told.program(1, "0: v1 = c(5, 6)");
        Told.many("v0 alone has one", y, 8, 2);
        y.out(2);
        Told.many("none has one", y, 8, 0);
    }

    private static void manyOfNone() {
        Due.says("Returns that.");
        SpillslotWorks x = Told.program(0);
        for (int what = 0; what < 16; what++) {
            Told.many("nothing at all", x, what, 0);
        }
    }
}
