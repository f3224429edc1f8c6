/** The bounds of Terms 5, and of promises 11 and 12, sentence by sentence. */
public final class EdgeLivesTest {
    public static void main(String[] args) {
        pointsAndEnd();
        endsByAWrite();
        toEndInOut();
        carriedByTimes();
        carriedFromAhead();
        carriedByTheLastOne();
        carriedByAWrite();
        carriedAndNoMore();
        carriedToEnd();
        crossesNotFirst();
        crossesNotLast();
        crossesByCarrying();
        crossesToEnd();
        crossesNoMore();
        weightOfEntry();
        weightOfEachRead();
        weightIsCut();
        weightCountsPoints();
        valueBounds();
        valueNone();
        mapBounds();
        mapOfNone();
        Due.end();
    }

    private static void pointsAndEnd() {
        Due.says("have the POINTS 0, 1, and so on; END is the number of them");
        SpillslotWorks x = Told.program(0);
        Told.many("none", x, 3, 0);
        Told.many("no LIVES at END 0", x, 15, 0);
        x.out(128);
        Told.value("v7 from 0 to END 1", x, 7, 0, 1);
        Told.statement(x, "3: v7 = v6");
        Told.value("v6 in the ENTRY, to BLOCK 3", x, 6, 0, 1);
        Told.value("v7 from BLOCK 3 to END 2", x, 7, 1, 2);
    }

    private static void endsByAWrite() {
        Due.says("The LIFE of a VALUE is from the first POINT that writes it to the last one that "
                + "writes or reads it.");
        SpillslotWorks x = Told.program(0, "0: v1 = 5", "1: v2 = v1", "2: v2 = 6", "3: v3 = 7");
        Told.value("v1, to where it is read", x, 1, 0, 1, 100);
        Told.value("v2, to where it is written", x, 2, 1, 2, 100);
        Told.value("v3, at one POINT alone", x, 3, 3, 3, 100, 0, -1, 0, 0, 1);
    }

    private static void toEndInOut() {
        Due.says("It is to END, if it is in OUT; otherwise,");
        SpillslotWorks x = Told.program(2, "0: v1 = 5", "1: v2 = v1", "2: v3 = 6", "3: v4 = 7");
        x.times(1, 9);
        Told.value("v1, in OUT, to END and not to behind BLOCK 1", x, 1, 0, 4);
        Told.value("v2 is not", x, 2, 1, 1);
        x.out(4);
        Told.value("v1, not in OUT, to behind BLOCK 1", x, 1, 0, 2);
        Told.value("v2 is", x, 2, 1, 4);
        x.out(0);
        Told.value("v2 is not, once more", x, 2, 1, 1);
    }

    private static void carriedByTimes() {
        Due.says("ahead of a BLOCK with TIMES above 1");
        SpillslotWorks x = Told.program(0, "0: v1 = 5", "1: v2 = v1", "1: v3 = 6", "2: v4 = 7");
        Told.value("TIMES 1", x, 1, 0, 1);
        x.times(1, 2);
        Told.value("TIMES 2", x, 1, 0, 3);
        x.times(1, 1);
        x.times(0, 9);
        x.times(2, 9);
        Told.value("TIMES 1, and 9 of the others", x, 1, 0, 1);
    }

    private static void carriedFromAhead() {
        Due.says("if it begins ahead of a BLOCK with TIMES above 1");
        SpillslotWorks x = Told.program(0, "1: v1 = 5", "1: v2 = v1", "1: v3 = v4");
        x.times(1, 3);
        // POINTS: 0 v4 in the ENTRY, 1 v1, 2 v2, 3 v3.
        Told.lines("BLOCK 1", x, "e: 4 = LI n0 h0", "1: 1 = LI n5 h2", "1: 2 = MOVE 1 h1",
                "1: 3 = MOVE 4 h1");
        Told.value("v1 begins with the first POINT of it", x, 1, 1, 2);
        Told.value("v2 begins in it", x, 2, 2, 2);
        Told.value("v4 begins ahead of it", x, 4, 0, 4);
    }

    private static void carriedByTheLastOne() {
        Due.says("and that last one is in it");
        SpillslotWorks x = Told.program(0, "0: v1 = 5", "1: v2 = v1", "1: v3 = 6",
                "2: v4 = v1 - v2", "2: v5 = 7", "3: v6 = 8");
        x.times(1, 9);
        Told.value("v1 is read in BLOCK 1, and last in BLOCK 2", x, 1, 0, 3);
        Told.value("v2 begins in BLOCK 1, and is read last in BLOCK 2", x, 2, 1, 3);
        x.times(2, 2);
        Told.value("v1, as BLOCK 2 is done twice", x, 1, 0, 5);
        Told.value("v2, as BLOCK 2 is done twice", x, 2, 1, 5);
    }

    private static void carriedByAWrite() {
        Due.says("it is to the POINT behind the last one of that");
        SpillslotWorks x = Told.program(0, "0: v1 = 5", "1: v1 = 6", "1: v2 = 7", "2: v3 = 8");
        x.times(1, 2);
        Told.value("v1 is written last", x, 1, 0, 3, 75, 0, -1, 0, 0, 2);
        Told.value("v2 is not of BLOCK 0", x, 2, 2, 2);
    }

    private static void carriedAndNoMore() {
        Due.says("(and no more, whatever BLOCK that is in)");
        SpillslotWorks x = Told.program(0, "0: v1 = 5", "1: v2 = v1", "3: v3 = 6", "3: v4 = 7");
        for (int block = 0; block < 4; block++) {
            x.times(block, 9);
        }
        // POINT 2 is the first one of BLOCK 3, for BLOCK 2 has none.
        Told.value("v1", x, 1, 0, 2);
        Due.is("that POINT is in BLOCK", x.chosen(2, 6), 3);
        Told.value("v2", x, 2, 1, 1);
    }

    private static void carriedToEnd() {
        Due.says("it is to the POINT behind the last one of that");
        SpillslotWorks x = Told.program(0, "2: v1 = 5", "3: v2 = v1");
        x.times(3, 2);
        Told.value("behind the last BLOCK is END", x, 1, 0, 2, 100);
        Told.many("v1 alone at END, with v2 at the POINT 1", x, 15, 2);
        SpillslotWorks y = Told.program(0, "0: v1 = 5", "1: v2 = v1");
        y.times(1, 2);
        Told.value("behind a BLOCK with empty ones behind it too", y, 1, 0, 2, 100);
    }

    private static void crossesNotFirst() {
        Due.says("It CROSSES a CALL at a POINT that is behind its first and ahead of its last "
                + "one.");
        SpillslotWorks x = Told.program(2, "0: v1 = c(v2, v3)", "1: v4 = 5");
        Told.value("v1 begins at the CALL", x, 1, 2, 4, 33, 0, -1, 0, 0, 1);
        Told.value("v4 begins behind it", x, 4, 3, 3, 100, 1, -1, 0, 0, 1);
        Due.is("REGISTERS of those that CROSS", x.mapAt(0, 1), 0);
    }

    private static void crossesNotLast() {
        Due.says("It CROSSES a CALL at a POINT that is behind its first and ahead of its last "
                + "one.");
        SpillslotWorks x = Told.program(0, "0: v1 = c(v2, v3)", "1: v4 = v3");
        Told.value("v2 ends at the CALL", x, 2, 0, 2, 66, 0, -1, 0, 0, 2);
        Told.value("v3 ends one behind it", x, 3, 1, 3, 100, 2, -1, 0, 1, 3);
        Due.is("REGISTERS of those that CROSS", x.mapAt(0, 1), 4);
    }

    private static void crossesByCarrying() {
        Due.says("It CROSSES a CALL at a POINT that is behind its first and ahead of its last "
                + "one.");
        SpillslotWorks x = Told.program(0, "0: v4 = v1", "1: v5 = c(v2, v3)");
        Told.value("v1 ends in BLOCK 0", x, 1, 0, 3, 50, 0, -1, 0, 0, 2);
        x.times(0, 2);
        Told.value("v1 is carried to the POINT of the CALL", x, 1, 0, 4, 60, 0, -1, 0, 0, 2);
        x.times(1, 2);
        // POINTS: 0 v1, 1 v2, 2 v3, 3 MOVE v4, 4 CALL v5; END is 5.
        Told.value("v2 is carried to behind the CALL", x, 2, 1, 5, 60, 2, -1, 0, 1, 2);
        Told.value("v3 too", x, 3, 2, 5, 75, 3, -1, 0, 1, 2);
        Due.is("REGISTERS of those that CROSS", x.mapAt(0, 1), 4 + 8);
    }

    private static void crossesToEnd() {
        Due.says("It CROSSES a CALL at a POINT that is behind its first and ahead of its last "
                + "one.");
        SpillslotWorks x = Told.program(2, "3: v5 = c(v1, v1)");
        Told.value("v1 is to END, and the last POINT is a CALL", x, 1, 0, 2, 100, 2, -1, 0, 1, 3);
        x.out(0);
        Told.value("v1 ends at the CALL", x, 1, 0, 1, 150, 0, -1, 0, 0, 3);
    }

    private static void crossesNoMore() {
        Due.says("It CROSSES a CALL at a POINT");
        SpillslotWorks x = Told.program(1, "0: v1 = c(v0, v2)", "1: v3 = c(v0, v2)");
        Told.value("v0 CROSSES two", x, 0, 0, 4, 60, 2, -1, 0, 2, 3);
        Told.value("v2 CROSSES one", x, 2, 1, 3, 100, 3, -1, 0, 1, 3);
        x.take(1);
        Told.value("v0 CROSSES one, as the other one was taken away", x, 0, 0, 3, 50, 2, -1, 0, 1,
                2);
        Told.value("v2 CROSSES none", x, 2, 1, 2, 100, 0, -1, 0, 0, 2);
        x.take(0);
        for (int k = 0; k < 6; k++) {
            Told.statement(x, "2: v4 = v0 - v5");
        }
        Told.value("v0 CROSSES none, where the CALLS were", x, 0, 0, 8, 77, 0, -1, 0, 0, 7);
        Told.value("v5 CROSSES none", x, 5, 1, 7, 100, 1, -1, 0, 0, 7);
    }

    private static void weightOfEntry() {
        Due.says("100 * the sum of TIMES (1 for the ENTRY)");
        SpillslotWorks x = Told.program(0, "0: v2 = v1");
        for (int times = 1; times < 10; times++) {
            x.times(0, times);
            // One in the ENTRY, and one read in each round; POINTS 0 and 1, and END, if carried.
            int points = times > 1 ? 3 : 2;
            Told.value("v1", x, 1, 0, points - 1, 100 * (1 + times) / points);
            Told.value("v2", x, 2, 1, 1, 100 * times);
        }
    }

    private static void weightOfEachRead() {
        Due.says("of each instruction that writes it and, for each time that it is read by one, of "
                + "that");
        SpillslotWorks x = Told.program(0, "0: v1 = 20", "1: v2 = v1 * v1 + v1",
                "2: v1 = v1 - v1", "3: v3 = c(v1, v1)");
        x.times(0, 2);
        x.times(1, 3);
        x.times(2, 4);
        x.times(3, 5);
        // 2, 3 times 3, 4 and 2 times 4, 2 times 5: 33, from 0 to END at 4.
        Told.value("v1", x, 1, 0, 4, 660, 2, -1, 0, 1, 9);
        Told.value("v2", x, 2, 1, 1, 300);
        Told.value("v3", x, 3, 3, 3, 500);
    }

    private static void weightIsCut() {
        Due.says("where a / is told it is cut");
        SpillslotWorks x = Told.program(14, "0: v1 = 5", "0: v2 = v1", "1: v3 = v2 * v1");
        // v1: 300 / 4, v2: 200 / 3, v3: 100 / 2.
        Told.value("v1", x, 1, 0, 3, 75);
        Told.value("v2: 66 and two thirds", x, 2, 1, 3, 66);
        Told.value("v3", x, 3, 2, 3, 50);
        Told.statement(x, "2: v4 = v1");
        Told.statement(x, "3: v4 = v1");
        Told.value("v1: 500 / 6 is 83 and a third", x, 1, 0, 5, 83);
        Told.value("v2: 200 / 5", x, 2, 1, 5, 40);
    }

    private static void weightCountsPoints() {
        Due.says("/ how many POINTS it has, first and last (or END) with them");
        SpillslotWorks x = Told.program(0, "0: v1 = 5", "1: v2 = 6", "2: v3 = v1");
        Told.value("three POINTS, of which it is in two", x, 1, 0, 2, 66);
        x.out(2);
        Told.value("and END", x, 1, 0, 3, 50);
        Told.value("one alone", x, 2, 1, 1, 100);
    }

    private static void valueBounds() {
        Due.says("Throws `IndexOutOfBoundsException` if there is no such VALUE in an instruction");
        SpillslotWorks x = Told.program(0, "0: v1 = v7 * 60");
        for (int value = -2; value < 100; value++) {
            int v = value;
            if (v == 1 || v == 7 || v == 8) {
                Due.is("ofValue(" + v + ", 5)", x.ofValue(v, 5), 0);
            } else {
                for (int what = -1; what < 9; what++) {
                    int w = what;
                    Due.index("ofValue(" + v + ", " + w + ")", () -> x.ofValue(v, w));
                }
            }
        }
        Due.index("ofValue(int's least, 0)", () -> x.ofValue(Integer.MIN_VALUE, 0));
        Due.index("ofValue(int's greatest, 0)", () -> x.ofValue(Integer.MAX_VALUE, 0));
        Due.says("Throws `IllegalArgumentException` if what is not 0 to 7");
        for (int what : new int[] {Integer.MIN_VALUE, -1, 8, 9, Integer.MAX_VALUE}) {
            for (int v : new int[] {1, 7, 8}) {
                Due.argument("ofValue(" + v + ", " + what + ")", () -> x.ofValue(v, what));
            }
        }
        x.take(0);
        for (int value = 0; value < 10; value++) {
            int v = value;
            Due.says("if there is no such VALUE in an instruction");
            Due.index("ofValue(" + v + ", 0) as none is left", () -> x.ofValue(v, 0));
        }
    }

    private static void valueNone() {
        Due.says("3 its REGISTER (NONE, if it is SPILLED), 4 its SLOT (NONE), 5 1 if it is REMADE, "
                + "otherwise 0");
        SpillslotWorks x = Told.program(6, "0: v1 = v1 * v1", "0: v3 = c(v2, v2)");
        x.machine(8, 0, 15, true, false);
        // POINTS: 0 v1, 1 v2, 2 CALL, 3 MUL; END is 4.
        Told.value("v1 has a SLOT", x, 1, 0, 4, 80, -1, 0, 0, 1, 4);
        Told.value("v2 is REMADE", x, 2, 1, 4, 75, -1, -1, 1, 1, 3);
        Told.value("v3 has a REGISTER", x, 3, 2, 2, 100, 0, -1, 0, 0, 1);
    }

    private static void mapBounds() {
        Due.says("Throws `IndexOutOfBoundsException` if there is no such CALL");
        SpillslotWorks x = Told.program(0, "2: v1 = c(v2, v3)", "0: v4 = c(v2, v3)",
                "2: v5 = c(v4, v1)");
        Due.is("the first by POINTS", x.mapAt(0, 0), 2);
        Due.is("the second", x.mapAt(1, 0), 3);
        Due.is("the third", x.mapAt(2, 0), 4);
        for (int call : new int[] {Integer.MIN_VALUE, -1, 3, 4, 87, 88, Integer.MAX_VALUE}) {
            for (int what = -1; what < 5; what++) {
                int w = what;
                Due.index("mapAt(" + call + ", " + w + ")", () -> x.mapAt(call, w));
            }
        }
        Due.says("Throws `IllegalArgumentException` if what is not 0 to 3");
        for (int what : new int[] {Integer.MIN_VALUE, -1, 4, 5, 7, Integer.MAX_VALUE}) {
            for (int call = 0; call < 3; call++) {
                int c = call;
                Due.argument("mapAt(" + c + ", " + what + ")", () -> x.mapAt(c, what));
            }
        }
        Due.says("if there is no such CALL");
        SpillslotWorks y = Told.program(255, "0: v1 = v2 * v3");
        Due.index("without CALLS: mapAt(0, 0)", () -> y.mapAt(0, 0));
        Told.tree(y, "c(v1, v2)");
        Due.index("with one in no STATEMENT: mapAt(0, 0)", () -> y.mapAt(0, 0));
        SpillslotWorks z = Told.program(0);
        Due.index("without POINTS: mapAt(0, 0)", () -> z.mapAt(0, 0));
    }

    private static void mapOfNone() {
        Due.says("1 the set of REGISTERS of LIVES that CROSS it, 2 the set of SLOTS of such, 3 how "
                + "many of such are REMADE");
        SpillslotWorks x = Told.program(0, "0: v1 = c(2, 3)");
        Due.is("none CROSSES: mapAt(0, 0)", x.mapAt(0, 0), 2);
        for (int what = 1; what < 4; what++) {
            Due.is("none CROSSES: mapAt(0, " + what + ")", x.mapAt(0, what), 0);
        }
        SpillslotWorks y = Told.program(62, "0: v1 = v1 - 20", "0: v2 = v2 - 20",
                "0: v3 = v3 - 20", "1: v0 = c(v1, v2)");
        y.machine(7, 8, 0, true, false);
        // v1 to v5 CROSS; v4 and v5 are written by LIS in the ENTRY alone; 3 alone is KEPT.
        Due.is("REGISTER 3", y.mapAt(0, 1), 8);
        Due.is("SLOTS 0 and 1", y.mapAt(0, 2), 3);
        Due.is("v4 and v5", y.mapAt(0, 3), 2);
        y.machine(7, 0, 0, true, false);
        Due.is("no REGISTER", y.mapAt(0, 1), 0);
        Due.is("SLOTS 0, 1 and 2", y.mapAt(0, 2), 7);
        Due.is("v4 and v5 again", y.mapAt(0, 3), 2);
        y.machine(11, 252, 0, true, false);
        Due.is("REGISTERS 2 to 6", y.mapAt(0, 1), 4 + 8 + 16 + 32 + 64);
        Due.is("no SLOTS", y.mapAt(0, 2), 0);
        Due.is("none REMADE", y.mapAt(0, 3), 0);
    }
}
