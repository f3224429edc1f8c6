/** The bounds of Terms 8, and of promises 15 to 18, sentence by sentence. */
public final class EdgeRunTest {
    public static void main(String[] args) {
        firstInZero();
        oneCycleBehind();
        waitsForEachThatItReads();
        waitsForTheMove();
        callWaitsForBoth();
        storeWaits();
        liAndLoadDontWait();
        lastWriteCounts();
        latencyOfAdd();
        slotIsReadyAtOnce();
        callResultIsLate();
        keptStayLate();
        keptStay();
        cyclesOfTheLastOne();
        noneAtAll();
        roundsGoOn();
        beginsTheFirstTime();
        countsOfTheCode();
        answersFromPlaces();
        mostLives();
        meanIsNotCut();
        manyBounds();
        Due.end();
    }

    private static void firstInZero() {
        Due.says("Each instruction begins 1 CYCLE behind the one ahead of it (the first one in 0)");
        SpillslotWorks x = Told.program(1);
        for (int cycles = 1; cycles < 10; cycles++) {
            x.latency(0, cycles);
            Told.begins("one LI of " + cycles, x, 0);
            Told.many("one LI of " + cycles, x, 13, cycles);
            Told.many("one LI of " + cycles, x, 14, 0);
        }
    }

    private static void oneCycleBehind() {
        Due.says("or, if that is later, as all REGISTERS that it reads");
        SpillslotWorks x = Told.program(0, "0: v1 = 5", "1: v2 = v1 + 1");
        for (int cycles = 1; cycles < 10; cycles++) {
            x.latency(0, cycles);
            Told.begins("ADDI behind an LI of " + cycles, x, 0, cycles);
            Told.many("ADDI behind an LI of " + cycles, x, 14, cycles - 1);
        }
        SpillslotWorks y = Told.program(0, "0: v1 = v3 * v3", "1: v2 = 1", "2: v4 = 2",
                "3: v5 = v1 + 1");
        // LI, MUL in 1 and ready in 4, two LIS, and the ADDI in 4 as it was to be.
        Told.begins("ready as it is to begin", y, 0, 1, 2, 3, 4);
        Told.many("ready as it is to begin", y, 14, 0);
        y.latency(3, 4);
        Told.begins("ready one later", y, 0, 1, 2, 3, 5);
        Told.many("ready one later", y, 14, 1);
    }

    private static void waitsForEachThatItReads() {
        Due.says("as all REGISTERS that it reads (0 and 1 by CALL) are ready");
        String[] late = {"v1 - v2", "v2 - v1", "v1 + v2", "v2 + v1", "v1 * v2", "v2 * v1",
            "v1 * v2 + v2", "v2 * v1 + v2", "v2 * v2 + v1", "v1 + 9", "v1 - 9"};
        for (String tree : late) {
            SpillslotWorks x = Told.program(6, "0: v1 = v3 * v3", "1: v2 = 7", "2: v4 = " + tree);
            x.latency(3, 9);
            Told.begins("v1 is late for " + tree, x, 0, 1, 2, 10);
            Told.many("v1 is late for " + tree, x, 14, 7);
        }
        String[] early = {"v2 - v2", "v2 + v2", "v2 * v2", "v2 * v2 + v2", "v2 + 9", "99"};
        for (String tree : early) {
            SpillslotWorks x = Told.program(6, "0: v1 = v3 * v3", "1: v2 = 7", "2: v4 = " + tree);
            x.latency(3, 9);
            Told.begins("v1 has no say for " + tree, x, 0, 1, 2, 3);
        }
    }

    private static void waitsForTheMove() {
        Due.says("as all REGISTERS that it reads (0 and 1 by CALL) are ready");
        SpillslotWorks x = Told.program(22, "0: v1 = v3 * v3", "1: v2 = v1", "2: v4 = v2 + 1");
        x.latency(1, 7);
        Told.code("the CODE", x, "0 LI 0 0", "1 MUL 0 0 0", "2 MOVE 1 0", "3 ADDI 2 1 1");
        Told.begins("MOVE waits for MUL, and ADDI for MOVE", x, 0, 1, 4, 11);
        Told.many("MOVE waits for MUL, and ADDI for MOVE", x, 14, 8);
    }

    private static void callWaitsForBoth() {
        Due.says("(0 and 1 by CALL)");
        SpillslotWorks x = Told.program(0, "0: v1 = v3 * v3", "1: v2 = 7", "2: v4 = c(v1, v2)");
        x.latency(3, 9);
        Told.code("0 is late", x, "0 LI 0 0", "1 MUL 0 0 0", "2 LI 1 7", "3 CALL");
        Told.begins("0 is late", x, 0, 1, 2, 10);
        SpillslotWorks y = Told.program(0, "0: v2 = v3", "1: v1 = v4 * v4", "2: v5 = c(v2, v1)");
        y.latency(3, 9);
        Told.code("1 is late", y, "0 LI 0 0", "1 LI 1 0", "3 MUL 1 1 1", "4 CALL");
        Told.begins("1 is late", y, 0, 1, 2, 11);
    }

    private static SpillslotWorks stored() {
        SpillslotWorks x = Told.program(0, "0: v1 = v3 * v3", "1: v0 = c(7, 8)", "2: v2 = v1");
        x.machine(8, 0, 15, true, false);
        Told.code("v1 in a SLOT", x, "0 LI 0 0", "1 MUL 5 0 0", "1 STORE 5 0", "2 LI 0 7",
                "3 LI 1 8", "4 CALL", "5 LOAD 5 0", "5 MOVE 0 5");
        return x;
    }

    private static void storeWaits() {
        Due.says("as all REGISTERS that it reads");
        SpillslotWorks x = stored();
        Told.begins("the STORE for its REGISTER, the MOVE for the LOAD", x, 0, 1, 4, 5, 6, 7, 8,
                10);
        x.latency(3, 8);
        x.latency(5, 6);
        Told.begins("both longer", x, 0, 1, 9, 10, 11, 12, 13, 19);
        Told.many("both longer", x, 14, 12);
    }

    private static void liAndLoadDontWait() {
        Due.says("as all REGISTERS that it reads");
        SpillslotWorks x = Told.program(0, "0: v1 = v3 * v3", "1: v1 = 5");
        x.latency(3, 9);
        Told.code("an LI to what a MUL writes", x, "0 LI 0 0", "1 MUL 0 0 0", "2 LI 0 5");
        Told.begins("an LI to what a MUL writes", x, 0, 1, 2);
        SpillslotWorks y = stored();
        y.latency(7, 9);
        Told.begins("a LOAD behind a CALL of 9", y, 0, 1, 4, 5, 6, 7, 8, 10);
    }

    private static void lastWriteCounts() {
        Due.says("What it writes (0 by CALL; a SLOT is ready at once) is ready as many "
                + "CYCLES behind "
                + "its begin as its LATENCY");
        SpillslotWorks x = Told.program(0, "0: v1 = v3 * v3", "1: v1 = 5", "2: v4 = v1 + 1");
        x.latency(3, 9);
        Told.begins("the LI, not the MUL ahead of it", x, 0, 1, 2, 3);
        Told.many("no STALLS", x, 14, 0);
    }

    private static void latencyOfAdd() {
        Due.says("(that of ADD for 2, 3 and 5)");
        SpillslotWorks x = Told.program(0, "0: v1 = 5", "0: v2 = v1 + v1", "1: v3 = v2 - v2",
                "2: v4 = v3 + 1", "3: v5 = v4 * v4");
        x.latency(2, 4);
        Told.begins("LI, ADD, SUB, ADDI, MUL", x, 0, 1, 5, 9, 13);
        Told.many("LI, ADD, SUB, ADDI, MUL", x, 13, 16);
        x.take(3);
        Told.many("LI, ADD, SUB, ADDI", x, 13, 13);
        x.take(2);
        Told.many("LI, ADD, SUB", x, 13, 9);
        x.take(1);
        Told.many("LI, ADD", x, 13, 5);
    }

    private static void slotIsReadyAtOnce() {
        Due.says("a SLOT is ready at once");
        SpillslotWorks x = Told.program(0, "0: v1 = v1 + 1", "0: v1 = v1 + 2", "1: v0 = c(v1, v1)",
                "2: v2 = v1");
        x.machine(8, 0, 15, true, false);
        x.latency(6, 9);
        Told.code("the CODE", x, "0 LI 5 0", "0 STORE 5 0", "1 LOAD 5 0", "1 ADDI 5 5 1",
                "1 STORE 5 0", "2 LOAD 5 0", "2 ADDI 5 5 2", "2 STORE 5 0", "3 LOAD 0 0",
                "3 LOAD 1 0", "3 CALL", "4 LOAD 5 0", "4 MOVE 0 5");
        Told.begins("each LOAD is one behind the STORE, and what reads it two behind", x, 0, 1, 2,
                4, 5, 6, 8, 9, 10, 11, 13, 14, 16);
        x.latency(6, 1);
        Told.begins("with a STORE of 1 too", x, 0, 1, 2, 4, 5, 6, 8, 9, 10, 11, 13, 14, 16);
    }

    private static void callResultIsLate() {
        Due.says("What it writes (0 by CALL;");
        SpillslotWorks x = Told.program(0, "0: v1 = c(5, 6)", "1: v2 = v1 + 1");
        for (int cycles = 1; cycles < 10; cycles++) {
            x.latency(7, cycles);
            Told.begins("a CALL of " + cycles, x, 0, 1, 2, 2 + cycles);
            Told.many("a CALL of " + cycles, x, 14, cycles - 1);
        }
        x.take(1);
        Told.many("CYCLES, as the CALL is the last one", x, 13, 2 + 9);
    }

    private static void keptStayLate() {
        Due.says("CALL writes all REGISTERS that are not KEPT");
        SpillslotWorks x = Told.program(0, "0: v1 = v3 * v3", "1: v0 = c(7, 8)", "2: v4 = v1 + 1");
        x.latency(3, 9);
        x.latency(7, 1);
        Told.code("v1 is KEPT", x, "0 LI 0 0", "1 MUL 2 0 0", "2 LI 0 7", "3 LI 1 8", "4 CALL",
                "5 ADDI 0 2 1");
        Told.begins("v1 is late behind the CALL too", x, 0, 1, 2, 3, 4, 10);
    }

    private static void keptStay() {
        Due.says("what 0 has is as 2 says");
        SpillslotWorks x = Told.program(254, "0: v1 = 11", "0: v2 = v2 - 22", "0: v3 = 33",
                "1: v4 = c(v1, v3)", "2: v5 = c(v4, v2)", "3: v6 = c(v5, v5)");
        for (int registers = 5; registers <= 11; registers++) {
            int all = (1 << registers - 3) - 4;
            for (int kept = 0; kept <= all; kept += 4) {
                x.machine(registers, kept, 15, true, false);
                String name = registers + " of which " + kept + " are KEPT: ";
                Due.is(name + "v1", x.answer(1), 11);
                Due.is(name + "v2", x.answer(2), -22);
                Due.is(name + "v3", x.answer(3), 33);
                Due.is(name + "v4", x.answer(4), 100);
                Due.is(name + "v5", x.answer(5), 257);
                Due.is(name + "v6", x.answer(6), 1286);
            }
        }
    }

    private static void cyclesOfTheLastOne() {
        Due.says("CYCLES: behind the begin of the last one, and its LATENCY");
        SpillslotWorks x = Told.program(2, "0: v1 = v3 * v3", "1: v2 = 5");
        x.latency(3, 9);
        Told.begins("a MUL of 9, and an LI behind it", x, 0, 1, 2);
        Told.many("the LI counts, not the MUL", x, 13, 3);
        x.take(1);
        Told.many("the MUL counts", x, 13, 10);
        Told.statement(x, "3: v2 = v4");
        x.times(3, 2);
        // LIS of v3 and v4, the MUL in 2, and two MOVES in 3 and 4.
        x.latency(1, 6);
        Told.many("the second round's MOVE", x, 13, 4 + 6);
    }

    private static void noneAtAll() {
        Due.says("0 without any.");
        SpillslotWorks x = Told.program(0);
        for (int block = 0; block < 4; block++) {
            x.times(block, 9);
        }
        for (int what = 9; what < 15; what++) {
            Told.many("nothing, nine times", x, what, 0);
        }
        Due.says("Returns the mean of STALLS for an instruction of a RUN, not cut; 0 without any.");
        Due.isTrue("meanStall() is 0", x.meanStall() == 0.0);
    }

    private static void roundsGoOn() {
        Due.says("A RUN does the ENTRY, and each BLOCK so often as its TIMES are");
        SpillslotWorks x = Told.program(2, "1: v1 = v1 * v1", "3: v1 = v1 + 1");
        x.latency(3, 9);
        x.times(1, 3);
        x.times(2, 9);
        x.times(3, 2);
        // LI in 0, MULS in 1, 10 and 19, ADDIS in 28 and 29.
        Told.begins("each waits for the round ahead", x, 0, 1, 28);
        Told.many("instructions", x, 12, 6);
        Told.many("CYCLES", x, 13, 30);
        Told.many("STALLS", x, 14, 24);
        Due.is("answer(1)", x.answer(1), 2);
        Due.isTrue("meanStall() is 4", x.meanStall() == 4.0);
    }

    private static void beginsTheFirstTime() {
        Due.says("begins as it is done the first time in a RUN");
        SpillslotWorks x = Told.program(0, "0: v1 = 20", "0: v2 = 30", "1: v3 = 40");
        x.times(0, 9);
        Told.begins("nine rounds of two", x, 0, 1, 18);
        x.times(1, 9);
        Told.begins("and nine of one", x, 0, 1, 18);
        Told.many("instructions", x, 12, 27);
        Told.many("CYCLES", x, 13, 27);
    }

    private static void countsOfTheCode() {
        Due.says("9 how long the CODE is, 10 MOVES in it, 11 LOADS and STORES in it, 12 "
                + "instructions "
                + "of a RUN");
        SpillslotWorks x = stored();
        x.times(2, 9);
        Told.many("CODE", x, 9, 8);
        Told.many("MOVES, each once", x, 10, 1);
        Told.many("a LOAD and a STORE, each once", x, 11, 2);
        Told.many("instructions, each so often as it is done", x, 12, 6 + 2 * 9);
    }

    private static void answersFromPlaces() {
        Due.says("(REGISTER, SLOT, or the number from which it is REMADE)");
        SpillslotWorks x = Told.program(7, "0: v0 = 999", "0: v1 = v1 - 9", "0: v2 = 20",
                "1: v2 = v2 + v1", "2: v3 = c(v0, v0)", "3: v2 = v2 + v2");
        int[][] machines = {{5, 0}, {6, 4}, {8, 0}, {8, 28}, {11, 252}};
        for (int[] m : machines) {
            x.machine(m[0], m[1], 15, true, false);
            Due.is("v0 of " + m[0], x.answer(0), 999);
            Due.is("v1 of " + m[0], x.answer(1), -9);
            Due.is("v2 of " + m[0], x.answer(2), 22);
        }
        x.machine(6, 4, 15, true, false);
        Due.is("v0 is REMADE", x.ofValue(0, 5), 1);
        Due.is("v1 has a SLOT", x.ofValue(1, 4), 0);
        Due.is("v2 has a REGISTER", x.ofValue(2, 3), 2);
    }

    private static void mostLives() {
        Due.says("15 the most LIVES that have one POINT (or END) in common (0 without any)");
        SpillslotWorks x = Told.program(0);
        Told.many("without any", x, 15, 0);
        x = Told.program(0, "0: v1 = 5");
        Told.many("one at one POINT", x, 15, 1);
        Told.statement(x, "1: v2 = 6");
        Told.many("each at a POINT of its own", x, 15, 1);
        x = Told.program(0, "0: v1 = 5", "1: v2 = v1");
        Told.many("one ends as the other one begins", x, 15, 2);
        x = Told.program(6, "0: v1 = 5", "1: v2 = 6");
        Told.many("at the last POINT, and at END", x, 15, 2);
        SpillslotWorks y = Told.program(10, "0: v1 = 5", "1: v2 = v1 + v3", "3: v1 = v1 + 1");
        // POINTS: 0 v3, 1 v1, 2 v2 alone at its POINT, 3 v1: v3, v1 and v2 at 2.
        Told.many("at a POINT, more than at END", y, 15, 3);
        SpillslotWorks z = Told.program(2, "2: v1 = 5", "3: v2 = v1", "3: v2 = v3");
        // v3 is carried to END, where v1 is too; v2 is at 2 and 3, with both.
        z.times(3, 2);
        Told.many("with those that are carried", z, 15, 3);
    }

    private static void meanIsNotCut() {
        Due.says("Returns the mean of STALLS for an instruction of a RUN, not cut");
        SpillslotWorks x = Told.program(0, "0: v1 = 5", "1: v2 = v1 + 1", "2: v3 = 7");
        Due.isTrue("none in three", x.meanStall() == 0.0);
        for (int cycles = 2; cycles < 10; cycles++) {
            x.latency(0, cycles);
            Due.isTrue((cycles - 1) + " in three", x.meanStall() == (cycles - 1) / 3.0);
        }
        x.times(2, 9);
        Due.isTrue("8 in eleven", x.meanStall() == 8 / 11.0);
    }

    private static void manyBounds() {
        Due.says("Throws `IllegalArgumentException` if what is not 0 to 15");
        SpillslotWorks x = Told.program(1, "0: v0 = v1");
        Told.many("NODES", x, 0, 1);
        Told.many("most LIVES", x, 15, 2);
        for (int what : new int[] {Integer.MIN_VALUE, -1, 16, 17, 31, Integer.MAX_VALUE}) {
            Due.argument("many(" + what + ")", () -> x.many(what));
        }
    }
}
