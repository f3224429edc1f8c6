/** The bounds of Terms 7, and of promise 14, sentence by sentence. */
public final class EdgeCodeTest {
    public static void main(String[] args) {
        readsComeFirst();
        readsByTheirPlace();
        eachTimeForItself();
        readsThatAreRemade();
        scratchGoesWithRegisters();
        writesIntoScratch();
        remadeMakesNothing();
        twoHasTheFirst();
        twoExchanged();
        twoInScratch();
        twoHasNeither();
        twoIsSpilled();
        threeStays();
        callInOneAndZero();
        callSecondInZero();
        callOtherwise();
        callOfSpilled();
        callGivesItsResult();
        moveToItself();
        notNamedAreZero();
        codeBounds();
        Due.end();
    }

    /** None is KEPT, so that those that CROSS a CALL are SPILLED; S is 5. */
    private static SpillslotWorks program(boolean isTwo, String... statements) {
        SpillslotWorks x = Told.program(0, statements);
        x.machine(8, 0, 15, true, isTwo);
        return x;
    }

    /**
     * v1, v2 and v3 have the SLOTS 0, 1 and 2: they are 1, 2 and 3. POINTS: 0 to 2 the ENTRY, 3 to
     * 5 ADDIS, 6 and 7 LIS, 8 the CALL, and what BLOCKS 2 and 3 have.
     */
    private static SpillslotWorks slots(boolean isTwo, String... statements) {
        SpillslotWorks x = program(isTwo, "0: v1 = v1 + 1", "0: v2 = v2 + 2", "0: v3 = v3 + 3",
                "1: v0 = c(7, 8)", "3: v0 = v1 * v2 + v3");
        x.take(3);
        for (String told : statements) {
            Told.statement(x, told);
        }
        return x;
    }

    private static void readsComeFirst() {
        Due.says("What it reads and is SPILLED comes first, in the order in which it is "
                + "read: LOAD x "
                + "n from the SLOT n");
        SpillslotWorks x = slots(false, "2: v4 = v3 * v1 + v2");
        Told.codeFrom(8, "as they are read", x, "8 CALL", "9 LOAD 5 2", "9 LOAD 6 0",
                "9 LOAD 7 1", "9 FUSE 0 5 6 7");
        x.out(16);
        Due.is("3 * 1 + 2", x.answer(4), 5);
    }

    private static void readsByTheirPlace() {
        Due.says("into S, if it is the first one that it reads, S + 1, if the second, S + 2, "
                + "if the "
                + "third one (of all that it reads, SPILLED or not;");
        SpillslotWorks x = slots(false, "2: v5 = 50", "2: v6 = 60", "2: v4 = v5 * v6 + v1",
                "3: v7 = v2 + v2", "3: v7 = v3 + v3");
        Told.codeFrom(9, "the third alone", x, "9 LI 0 50", "10 LI 1 60", "11 LOAD 7 0",
                "11 FUSE 0 0 1 7", "12 LOAD 5 1", "12 LOAD 6 1", "12 ADD 0 5 6", "13 LOAD 5 2",
                "13 LOAD 6 2", "13 ADD 0 5 6");
        x = slots(false, "2: v5 = 50", "2: v4 = v5 - v1", "3: v6 = v2 - v3");
        Told.codeFrom(9, "the second alone", x, "9 LI 0 50", "10 LOAD 6 0", "10 SUB 0 0 6",
                "11 LOAD 5 1", "11 LOAD 6 2", "11 SUB 0 5 6");
        x = slots(false, "2: v5 = 50", "2: v4 = v1 - v5", "3: v6 = v2 - v3");
        Told.codeFrom(9, "the first alone", x, "9 LI 0 50", "10 LOAD 5 0", "10 SUB 0 5 0",
                "11 LOAD 5 1", "11 LOAD 6 2", "11 SUB 0 5 6");
        x = slots(false, "2: v4 = v1", "2: v5 = v2 + 9", "3: v6 = v3 - v4");
        Told.codeFrom(9, "the only one", x, "9 LOAD 5 0", "9 MOVE 0 5", "10 LOAD 5 1",
                "10 ADDI 1 5 9", "11 LOAD 5 2", "11 SUB 0 5 0");
    }

    private static void eachTimeForItself() {
        Due.says("each time for itself, also if it is the same");
        SpillslotWorks x = slots(false, "2: v4 = v1 * v1 + v1", "3: v4 = v2 * v3");
        Told.codeFrom(9, "three times", x, "9 LOAD 5 0", "9 LOAD 6 0", "9 LOAD 7 0",
                "9 FUSE 0 5 6 7", "10 LOAD 5 1", "10 LOAD 6 2", "10 MUL 0 5 6");
    }

    private static void readsThatAreRemade() {
        Due.says("(LI x n, with the number from which it is REMADE)");
        SpillslotWorks x = program(false, "0: v1 = 999", "0: v2 = -999", "0: v3 = v3 + 3",
                "1: v0 = c(v4, v4)", "2: v5 = v1 * v3 + v2", "3: v6 = v2 - v4");
        // POINTS: 0 v3, 1 v4, 2 v1, 3 v2, 4 ADDI, 5 CALL, 6 FUSE, 7 SUB.
        Told.codeFrom(2, "LIS, and a LOAD", x, "4 LOAD 5 0", "4 ADDI 5 5 3", "4 STORE 5 0",
                "5 LI 0 0", "5 LI 1 0", "5 CALL", "6 LI 5 999", "6 LOAD 6 0", "6 LI 7 -999",
                "6 FUSE 0 5 6 7", "7 LI 5 -999", "7 LI 6 0", "7 SUB 0 5 6");
    }

    private static void scratchGoesWithRegisters() {
        Due.says("the last three, S, S + 1, S + 2, are SCRATCH");
        SpillslotWorks x = slots(false, "2: v4 = v3 * v1 + v2");
        for (int registers = 5; registers <= 11; registers++) {
            x.machine(registers, 0, 15, true, false);
            int s = registers - 3;
            Told.codeFrom(9, "of " + registers, x, "9 LOAD " + s + " 2",
                    "9 LOAD " + (s + 1) + " 0", "9 LOAD " + (s + 2) + " 1",
                    "9 FUSE 0 " + s + " " + (s + 1) + " " + (s + 2));
        }
    }

    private static void writesIntoScratch() {
        Due.says("What it writes and is SPILLED it writes into S, and STORE S n follows");
        SpillslotWorks x = program(false, "0: v1 = 5", "0: v1 = 6", "0: v2 = v1", "0: v3 = v4",
                "1: v5 = v1 - v2", "2: v0 = c(7, 8)", "3: v0 = v1 * v2 + v3", "3: v0 = v5");
        // POINTS: 0 v4 in the ENTRY, 1 and 2 LIS, 3 and 4 MOVES, 5 SUB, 8 CALL.
        Told.lines("those ahead of the CALL", x, "e: 4 = LI n0 h0", "0: 1 = LI n5 h3",
                "0: 1 = LI n6 h2", "0: 2 = MOVE 1 h1", "0: 3 = MOVE 4 h1", "1: 5 = SUB 1 2 h1",
                "2: 8 = LI n7 h6", "2: 9 = LI n8 h6", "2: 0 = CALL 8 9 h5",
                "3: 0 = FUSE 1 2 3 h4", "3: 0 = MOVE 5 h1");
        Told.codeFrom(0, "LIS, MOVES of a SLOT and of a REGISTER, and a SUB", x, "0 LI 0 0",
                "1 LI 5 5", "1 STORE 5 0", "2 LI 5 6", "2 STORE 5 0", "3 LOAD 5 0",
                "3 STORE 5 1", "4 MOVE 5 0", "4 STORE 5 2", "5 LOAD 5 0", "5 LOAD 6 1",
                "5 SUB 5 5 6", "5 STORE 5 3", "6 LI 0 7", "7 LI 1 8", "8 CALL", "9 LOAD 5 0",
                "9 LOAD 6 1", "9 LOAD 7 2", "9 FUSE 0 5 6 7", "10 LOAD 5 3", "10 MOVE 0 5");
    }

    private static void remadeMakesNothing() {
        Due.says("(an LI that is REMADE makes nothing)");
        SpillslotWorks x = Told.program(255);
        x.machine(5, 0, 15, true, false);
        Told.code("six of eight are REMADE", x, "6 LI 0 0", "7 LI 1 0");
        Told.many("steps", x, 12, 2);
        for (int v = 0; v < 8; v++) {
            Due.is("answer(" + v + ")", x.answer(v), 0);
        }
    }

    private static void twoHasTheFirst() {
        Due.says("if that is not in the REGISTER d that they write");
        SpillslotWorks x = program(true, "0: v1 = 10", "0: v1 = v1 + v1", "1: v1 = v1 - v1",
                "1: v1 = v1 * v1", "2: v1 = v1 + 1", "3: v1 = v1 * v1 + v1");
        Told.code("it is, and so are the others", x, "0 LI 0 10", "1 ADD 0 0 0", "2 SUB 0 0 0",
                "3 MUL 0 0 0", "4 ADDI 0 0 1", "5 FUSE 0 0 0 0");
    }

    private static void twoExchanged() {
        Due.says("if d has the second or third one that it reads: for ADD and MUL these two are "
                + "exchanged");
        SpillslotWorks x = program(true, "0: v1 = 10", "0: v2 = 20", "1: v1 = v2 + v1",
                "1: v1 = v2 * v1", "2: v2 = v2 - v1");
        Told.codeFrom(2, "in REGISTERS", x, "2 ADD 0 0 1", "3 MUL 0 0 1", "4 SUB 1 1 0");
        SpillslotWorks y = slots(true, "2: v5 = 50", "2: v5 = v1 + v5", "3: v5 = v2 * v5",
                "3: v5 = v3 - v5");
        Told.codeFrom(9, "with the first one in S", y, "9 LI 0 50", "10 LOAD 5 0", "10 ADD 0 0 5",
                "11 LOAD 5 1", "11 MUL 0 0 5", "12 LOAD 5 2", "12 SUB 5 5 0", "12 MOVE 0 5");
    }

    private static void twoInScratch() {
        Due.says("otherwise it is done in S instead, behind a MOVE to S, and ahead of a MOVE to d");
        SpillslotWorks x = program(true, "0: v1 = 10", "0: v2 = 20", "0: v3 = 30",
                "1: v1 = v2 - v1", "1: v1 = v2 * v1 + v3", "2: v1 = v2 * v3 + v1",
                "2: v1 = v2 * v1 + v1", "3: v1 = v2 - v3");
        Told.codeFrom(3, "the second, the third, and both; then neither", x,
                "3 MOVE 5 1", "3 SUB 5 5 0", "3 MOVE 0 5",
                "4 MOVE 5 1", "4 FUSE 5 5 0 2", "4 MOVE 0 5",
                "5 MOVE 5 1", "5 FUSE 5 5 2 0", "5 MOVE 0 5",
                "6 MOVE 5 1", "6 FUSE 5 5 0 0", "6 MOVE 0 5",
                "7 MOVE 0 1", "7 SUB 0 0 2");
        SpillslotWorks y = slots(true, "2: v5 = 50", "2: v5 = v1 * v5 + v2",
                "3: v5 = v1 * v3 + v5");
        Told.codeFrom(9, "the first one is in S already", y, "9 LI 0 50", "10 LOAD 5 0",
                "10 LOAD 7 1", "10 FUSE 5 5 0 7", "10 MOVE 0 5", "11 LOAD 5 0", "11 LOAD 6 2",
                "11 FUSE 5 5 6 0", "11 MOVE 0 5");
    }

    private static void twoHasNeither() {
        Due.says("if d has neither: behind a MOVE to d");
        SpillslotWorks x = program(true, "0: v1 = 10", "0: v2 = 20", "1: v3 = v1 + v2",
                "1: v3 = v1 + v1", "1: v3 = v1 - v2", "1: v3 = v1 * v2", "2: v3 = v1 + 5",
                "2: v3 = v1 * v2 + v1", "3: v4 = v1 - v2");
        Told.codeFrom(2, "of REGISTERS", x, "2 MOVE 2 0", "2 ADD 2 2 1", "3 MOVE 2 0",
                "3 ADD 2 2 0", "4 MOVE 2 0", "4 SUB 2 2 1", "5 MOVE 2 0", "5 MUL 2 2 1",
                "6 MOVE 2 0", "6 ADDI 2 2 5", "7 MOVE 2 0", "7 FUSE 2 2 1 0", "8 SUB 0 0 1");
        SpillslotWorks y = slots(true, "2: v4 = v1 * v2 + v3", "3: v5 = v1 + v2", "3: v6 = v3 + 4");
        Told.codeFrom(9, "of SCRATCH", y, "9 LOAD 5 0", "9 LOAD 6 1", "9 LOAD 7 2", "9 MOVE 0 5",
                "9 FUSE 0 0 6 7", "10 LOAD 5 0", "10 LOAD 6 1", "10 MOVE 0 5", "10 ADD 0 0 6",
                "11 LOAD 5 2", "11 MOVE 0 5", "11 ADDI 0 0 4");
    }

    private static void twoIsSpilled() {
        Due.says("With TWO, ADD, SUB, ADDI, MUL and FUSE write what they read first");
        SpillslotWorks x = program(true, "0: v1 = v4 - v5", "0: v2 = v5 * v4", "1: v1 = v1 - v2",
                "1: v2 = v4 + v2", "2: v0 = c(7, 8)", "3: v0 = v1 - v2", "3: v0 = v0 + v3");
        // POINTS: 0 v3, 1 v4, 2 v5, 3 MUL v2, 4 SUB v1, 5 SUB v1, 6 ADD v2.
        Told.codeFrom(3, "d is S", x, "3 MOVE 5 1", "3 MUL 5 5 0", "3 STORE 5 0",
                "4 MOVE 5 0", "4 SUB 5 5 1", "4 STORE 5 1", "5 LOAD 5 1", "5 LOAD 6 0",
                "5 SUB 5 5 6", "5 STORE 5 1", "6 LOAD 6 0", "6 MOVE 5 0", "6 ADD 5 5 6",
                "6 STORE 5 0", "7 LI 0 7", "8 LI 1 8", "9 CALL", "10 LOAD 5 1", "10 LOAD 6 0",
                "10 MOVE 0 5", "10 SUB 0 0 6", "11 LI 6 0", "11 ADD 0 0 6");
    }

    private static void threeStays() {
        Due.says("With TWO, ADD, SUB, ADDI, MUL and FUSE write what they read first");
        SpillslotWorks x = program(false, "0: v1 = 10", "0: v2 = 20", "1: v1 = v2 + v1",
                "1: v1 = v2 - v1", "2: v1 = v2 * v1 + v1", "3: v3 = v1 + v2", "3: v3 = v1 + 5");
        Told.codeFrom(2, "without TWO all is as it is read", x, "2 ADD 0 1 0", "3 SUB 0 1 0",
                "4 FUSE 0 1 0 0", "5 ADD 1 0 1", "6 ADDI 1 0 5");
    }

    /** v1, v2 and v3 have 0, 1 and 2, and those that the CALL does not read end ahead of it. */
    private static SpillslotWorks called(int first, int second) {
        SpillslotWorks x = program(false, "0: v1 = 10", "0: v2 = 20", "0: v3 = 30");
        int end = 0;
        for (int v = 1; v < 4; v++) {
            if (v != first && v != second) {
                Told.statement(x, "1: v7 = v" + v + " - v" + v);
                end++;
            }
        }
        Told.statement(x, "2: v0 = c(v" + first + ", v" + second + ")");
        x.out(1);
        Due.is("POINT of the CALL", x.mapAt(0, 0), 3 + end);
        Due.is("answer(0)", x.answer(0), 30 * first + 20 * second + 1);
        return x;
    }

    private static void callInOneAndZero() {
        Due.says("if it is in 1 and 0: MOVE S 0, MOVE 0 1, MOVE 1 S");
        Told.codeFrom(4, "1 and 0", called(2, 1), "4 MOVE 5 0", "4 MOVE 0 1", "4 MOVE 1 5",
                "4 CALL");
    }

    private static void callSecondInZero() {
        Due.says("otherwise, if the second one is in 0: MOVE 1 0, then the first one");
        Told.codeFrom(4, "2 and 0", called(3, 1), "4 MOVE 1 0", "4 MOVE 0 2", "4 CALL");
        Told.codeFrom(5, "0 and 0", called(1, 1), "5 MOVE 1 0", "5 CALL");
    }

    private static void callOtherwise() {
        Due.says("otherwise the first one, then the second one; each by a MOVE");
        Told.codeFrom(4, "0 and 1", called(1, 2), "4 CALL");
        Told.codeFrom(4, "0 and 2", called(1, 3), "4 MOVE 1 2", "4 CALL");
        Told.codeFrom(5, "1 and 1", called(2, 2), "5 MOVE 0 1", "5 CALL");
        Told.codeFrom(4, "1 and 2", called(2, 3), "4 MOVE 0 1", "4 MOVE 1 2", "4 CALL");
        Told.codeFrom(4, "2 and 1", called(3, 2), "4 MOVE 0 2", "4 CALL");
        Told.codeFrom(5, "2 and 2", called(3, 3), "5 MOVE 0 2", "5 MOVE 1 2", "5 CALL");
    }

    /** v1 has SLOT 0, and v6, which is 60, is REMADE; v4 has 0, and v5 has 1. */
    private static SpillslotWorks calledSpilled(String statement, String... between) {
        SpillslotWorks x = program(false, "0: v1 = v1 + 1", "0: v6 = 60", "1: v3 = c(7, 8)");
        for (String told : between) {
            Told.statement(x, told);
        }
        Told.statement(x, statement);
        Told.statement(x, "3: v7 = v1 + v6");
        return x;
    }

    private static void callOfSpilled() {
        Due.says("each by a MOVE, LOAD or LI into 0 or 1 itself");
        // POINTS: 0 v1, 1 ADDI, 2 v6, 3 and 4 LIS, 5 CALL, then those between, CALL, ADD.
        Told.codeFrom(7, "a SLOT, and 0", calledSpilled("2: v0 = c(v1, v4)", "2: v4 = 40"),
                "7 MOVE 1 0", "7 LOAD 0 0", "7 CALL", "8 LOAD 5 0", "8 LI 6 60", "8 ADD 0 5 6");
        Told.codeFrom(7, "REMADE, and 0", calledSpilled("2: v0 = c(v6, v4)", "2: v4 = 40"),
                "7 MOVE 1 0", "7 LI 0 60", "7 CALL", "8 LOAD 5 0", "8 LI 6 60", "8 ADD 0 5 6");
        Told.codeFrom(7, "0, and a SLOT", calledSpilled("2: v0 = c(v4, v1)", "2: v4 = 40"),
                "7 LOAD 1 0", "7 CALL", "8 LOAD 5 0", "8 LI 6 60", "8 ADD 0 5 6");
        Told.codeFrom(7, "0, and REMADE", calledSpilled("2: v0 = c(v4, v6)", "2: v4 = 40"),
                "7 LI 1 60", "7 CALL", "8 LOAD 5 0", "8 LI 6 60", "8 ADD 0 5 6");
        Told.codeFrom(6, "one SLOT twice", calledSpilled("2: v0 = c(v1, v1)"),
                "6 LOAD 0 0", "6 LOAD 1 0", "6 CALL", "7 LOAD 5 0", "7 LI 6 60", "7 ADD 0 5 6");
        Told.codeFrom(6, "REMADE, and a SLOT", calledSpilled("2: v0 = c(v6, v1)"),
                "6 LI 0 60", "6 LOAD 1 0", "6 CALL", "7 LOAD 5 0", "7 LI 6 60", "7 ADD 0 5 6");
        // v4 goes on to behind v5's first POINT, and is no more at the CALL.
        String[] ahead = {"2: v4 = 40", "2: v5 = 50", "2: v4 = v4 - v5"};
        Told.codeFrom(9, "a SLOT, and 1", calledSpilled("3: v0 = c(v1, v5)", ahead),
                "9 LOAD 0 0", "9 CALL", "10 LOAD 5 0", "10 LI 6 60", "10 ADD 0 5 6");
        Told.codeFrom(9, "1, and a SLOT", calledSpilled("3: v0 = c(v5, v1)", ahead),
                "9 MOVE 0 1", "9 LOAD 1 0", "9 CALL", "10 LOAD 5 0", "10 LI 6 60",
                "10 ADD 0 5 6");
    }

    private static void callGivesItsResult() {
        Due.says("Then CALL, then MOVE d 0, or STORE 0 n.");
        SpillslotWorks x = Told.program(14, "0: v1 = c(5, 6)", "1: v2 = c(7, 8)",
                "2: v3 = c(v1, v2)");
        Told.code("two are KEPT, the last one is in 0", x, "0 LI 0 5", "1 LI 1 6", "2 CALL",
                "2 MOVE 2 0", "3 LI 0 7", "4 LI 1 8", "5 CALL", "5 MOVE 3 0", "6 MOVE 0 2",
                "6 MOVE 1 3", "6 CALL");
        x.machine(8, 0, 15, true, true);
        Told.code("two have SLOTS, TWO or not", x, "0 LI 0 5", "1 LI 1 6", "2 CALL",
                "2 STORE 0 0", "3 LI 0 7", "4 LI 1 8", "5 CALL", "5 STORE 0 1", "6 LOAD 0 0",
                "6 LOAD 1 1", "6 CALL");
        SpillslotWorks y = Told.program(6, "0: v2 = 9", "1: v1 = c(3, 4)");
        y.machine(8, 28, 15, true, false);
        Told.code("d is 0, and v2 is KEPT", y, "0 LI 2 9", "1 LI 0 3", "2 LI 1 4", "3 CALL");
    }

    private static void moveToItself() {
        Due.says("A MOVE of a REGISTER to itself is left out everywhere.");
        SpillslotWorks x = Told.program(0, "0: v1 = v1", "1: v2 = v1", "2: v2 = v2",
                "3: v3 = v2");
        Told.code("of one VALUE, and of VALUES that share one", x, "0 LI 0 0");
        Told.many("POINTS", x, 3, 5);
        Told.many("MOVES", x, 10, 0);
        Told.many("steps", x, 12, 1);
        SpillslotWorks y = slots(false, "2: v2 = v1", "3: v4 = c(v2, v1)", "3: v5 = v2 + v1");
        Told.codeFrom(9, "of S to S", y, "9 LOAD 5 0", "9 STORE 5 1", "10 LOAD 0 1", "10 LOAD 1 0",
                "10 CALL", "11 LOAD 5 1", "11 LOAD 6 0", "11 ADD 0 5 6");
    }

    private static void notNamedAreZero() {
        Due.says("Those that are not named are 0.");
        // Told.place() looks at all that are not named; each kind of instruction is here once.
        SpillslotWorks x = slots(false, "2: v4 = v1 * v2 + v3", "2: v5 = v4 - v4",
                "3: v6 = v5 * v4", "3: v7 = v6 + v4", "3: v1 = v6");
        Told.codeFrom(4, "all kinds", x, "4 LOAD 5 1", "4 ADDI 5 5 2", "4 STORE 5 1",
                "5 LOAD 5 2", "5 ADDI 5 5 3", "5 STORE 5 2", "6 LI 0 7", "7 LI 1 8", "8 CALL",
                "9 LOAD 5 0", "9 LOAD 6 1", "9 LOAD 7 2", "9 FUSE 0 5 6 7", "10 SUB 1 0 0",
                "11 MUL 1 1 0", "12 ADD 0 1 0", "13 MOVE 5 1", "13 STORE 5 0");
    }

    private static void codeBounds() {
        SpillslotWorks x = slots(false, "2: v4 = v3 * v1 + v2");
        int length = x.many(9);
        Due.says("5 the POINT from which it came");
        Due.is("the last place", x.code(length - 1, 5), 9);
        Due.says("Throws `IndexOutOfBoundsException` if there is no such place");
        for (int k : new int[] {Integer.MIN_VALUE, -1, length, length + 1, 600,
            Integer.MAX_VALUE}) {
            for (int what = -1; what < 7; what++) {
                int w = what;
                Due.index("code(" + k + ", " + w + ")", () -> x.code(k, w));
            }
            Due.index("begins(" + k + ")", () -> x.begins(k));
        }
        Due.says("Throws `IllegalArgumentException` if what is not 0 to 5");
        for (int what : new int[] {Integer.MIN_VALUE, -1, 6, 7, Integer.MAX_VALUE}) {
            Due.argument("code(0, " + what + ")", () -> x.code(0, what));
            Due.argument("the last place, " + what, () -> x.code(length - 1, what));
        }
        SpillslotWorks none = Told.program(0);
        Due.says("if there is no such place");
        Due.index("without CODE: code(0, 0)", () -> none.code(0, 0));
        Due.index("without CODE: begins(0)", () -> none.begins(0));
    }
}
