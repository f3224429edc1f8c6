/** The bounds of Terms 3 and 4, and of promises 10 and 13, sentence by sentence. */
public final class EdgeChoosingTest {
    public static void main(String[] args) {
        numberedAsTheyCome();
        numberedByBlocks();
        useIsNoValue();
        lastOneWrites();
        firstAheadOfSecond();
        smallOfAdd();
        smallOfBoth();
        smallOfSub();
        smallOfNothingElse();
        fusedFirst();
        fusedOfBoth();
        fusedSecond();
        fusedOfNothingElse();
        fusedPartsInstructions();
        ofSeveralTheFirst();
        costsOfParts();
        entryNone();
        entryReadAhead();
        entryInOut();
        entryByNumbers();
        entryOnce();
        Due.end();
    }

    private static void numberedAsTheyCome() {
        Due.says("all others are numbered on from 8, as they come");
        SpillslotWorks x = Told.program(0, "0: v1 = (100 - v2) * c(v3, 50 - v4)",
                "0: v5 = v6 - (v7 - v1)");
        Told.lines("parts first, STATEMENT by STATEMENT", x,
                "e: 2 = LI n0 h0", "e: 3 = LI n0 h0", "e: 4 = LI n0 h0", "e: 6 = LI n0 h0",
                "e: 7 = LI n0 h0",
                "0: 10 = LI n50 h12", "0: 11 = SUB 10 4 h11", "0: 12 = CALL 3 11 h10",
                "0: 8 = LI n100 h7", "0: 9 = SUB 8 2 h6", "0: 1 = MUL 9 12 h5",
                "0: 13 = SUB 7 1 h2", "0: 5 = SUB 6 13 h1");
    }

    private static void numberedByBlocks() {
        Due.says("all others are numbered on from 8, as they come");
        SpillslotWorks x = Told.program(0, "3: v1 = v2 * 70", "1: v3 = v2 * 60",
                "1: v4 = v2 * 50");
        Told.lines("BLOCK by BLOCK, as told in each", x, "e: 2 = LI n0 h0",
                "1: 8 = LI n60 h4", "1: 9 = LI n50 h4", "1: 3 = MUL 2 8 h3", "1: 4 = MUL 2 9 h3",
                "3: 10 = LI n70 h4", "3: 1 = MUL 2 10 h3");
        x.take(1);
        Told.lines("one less", x, "e: 2 = LI n0 h0", "1: 8 = LI n60 h4", "1: 3 = MUL 2 8 h3",
                "3: 9 = LI n70 h4", "3: 1 = MUL 2 9 h3");
    }

    private static void useIsNoValue() {
        Due.says("a USE is the VALUE of its VARIABLE");
        SpillslotWorks x = Told.program(0, "0: v7 = v0 * v7 - v0");
        Told.lines("v0 * v7 alone is new", x, "e: 0 = LI n0 h0", "e: 7 = LI n0 h0",
                "0: 8 = MUL 0 7 h4", "0: 7 = SUB 8 0 h1");
        Told.many("VALUES", x, 4, 3);
    }

    private static void lastOneWrites() {
        Due.says("of which the last one writes the VARIABLE (MOVE, if the NODE is a USE)");
        SpillslotWorks x = Told.program(0, "0: v0 = 999", "0: v7 = v0", "1: v7 = v7",
                "2: v1 = c(v0, v7)", "3: v2 = v1 + 1");
        Told.lines("a NUMBER, two USES, a CALL, an ADDI", x, "0: 0 = LI n999 h2",
                "0: 7 = MOVE 0 h1", "1: 7 = MOVE 7 h1", "2: 1 = CALL 0 7 h5",
                "3: 2 = ADDI 1 n1 h1");
        Due.is("cost of a USE, MOVE or not", x.cost(1), 0);
    }

    private static void firstAheadOfSecond() {
        Due.says("The instructions of a come ahead of those of b.");
        SpillslotWorks x = new SpillslotWorks();
        x.out(0);
        // b is made first, and has the smaller number.
        int b = Told.tree(x, "60 - v1");
        int a = Told.tree(x, "70 - v2");
        x.statement(0, 3, x.node(4, a, b));
        Told.lines("as a and b are told, not as they were made", x, "e: 1 = LI n0 h0",
                "e: 2 = LI n0 h0", "0: 8 = LI n70 h5", "0: 10 = LI n60 h5", "0: 9 = SUB 8 2 h4",
                "0: 11 = SUB 10 1 h4", "0: 3 = MUL 9 11 h3");
    }

    private static void smallOfAdd() {
        Due.says("of ADD, if a or b is a NUMBER from -SMALL to SMALL");
        SpillslotWorks x = Told.program(0, "0: v1 = v2 + 7", "1: v1 = 7 + v2",
                "2: v1 = v2 + 8", "3: v1 = -8 + v2");
        x.machine(8, 28, 7, true, false);
        Told.lines("7 is small, 8 is not", x, "e: 2 = LI n0 h0", "0: 1 = ADDI 2 n7 h1",
                "1: 1 = ADDI 2 n7 h1", "2: 8 = LI n8 h2", "2: 1 = ADD 2 8 h1",
                "3: 9 = LI n-8 h2", "3: 1 = ADD 9 2 h1");
        x.machine(8, 28, 8, true, false);
        Told.lines("8 is small too", x, "e: 2 = LI n0 h0", "0: 1 = ADDI 2 n7 h1",
                "1: 1 = ADDI 2 n7 h1", "2: 1 = ADDI 2 n8 h1", "3: 1 = ADDI 2 n-8 h1");
        int sum = Told.tree(x, "v1 + -9");
        Due.is("cost of v1 + -9, as it is not small", x.cost(sum), 2);
        x.machine(8, 28, 9, true, false);
        Due.is("cost of v1 + -9, as it is small", x.cost(sum), 1);
    }

    private static void smallOfBoth() {
        Due.says("(b, if both are)");
        SpillslotWorks x = Told.program(0, "0: v1 = 3 + 4", "1: v1 = 3 + 16", "2: v1 = 16 + 4",
                "3: v1 = 16 + -16");
        Told.lines("both, a alone, b alone, none", x, "0: 8 = LI n3 h2", "0: 1 = ADDI 8 n4 h1",
                "1: 9 = LI n16 h2", "1: 1 = ADDI 9 n3 h1", "2: 10 = LI n16 h2",
                "2: 1 = ADDI 10 n4 h1", "3: 11 = LI n16 h2", "3: 12 = LI n-16 h2",
                "3: 1 = ADD 11 12 h1");
    }

    private static void smallOfSub() {
        Due.says("of SUB, if b is such, of a and less that");
        SpillslotWorks x = Told.program(0, "0: v1 = v2 - 15", "1: v1 = v2 - -15",
                "2: v1 = v2 - 0", "3: v1 = 15 - v2", "3: v3 = 4 - 5", "3: v4 = v2 - 16");
        Told.lines("b alone counts, a never", x, "e: 2 = LI n0 h0", "0: 1 = ADDI 2 n-15 h1",
                "1: 1 = ADDI 2 n15 h1", "2: 1 = ADDI 2 n0 h1", "3: 8 = LI n15 h2",
                "3: 9 = LI n4 h2", "3: 10 = LI n16 h2", "3: 1 = SUB 8 2 h1",
                "3: 3 = ADDI 9 n-5 h1", "3: 4 = SUB 2 10 h1");
        Due.is("cost of v2 - 15", x.cost(2), 1);
        Due.is("cost of 15 - v2", x.cost(11), 2);
    }

    private static void smallOfNothingElse() {
        Due.says("A SMALL cover: ADDI, of ADD,");
        SpillslotWorks x = Told.program(0, "0: v1 = v2 * 1", "1: v1 = c(v2, 1)",
                "2: v1 = v2 + v3", "3: v1 = v2 + (v3 * 1)");
        x.latency(4, 9);
        Told.lines("neither of MUL, nor of CALL, nor of a USE, nor of a MUL of a NUMBER", x,
                "e: 2 = LI n0 h0", "e: 3 = LI n0 h0", "0: 8 = LI n1 h4", "0: 1 = MUL 2 8 h3",
                "1: 9 = LI n1 h6", "1: 1 = CALL 2 9 h5", "2: 1 = ADD 2 3 h1",
                "3: 10 = LI n1 h5", "3: 11 = MUL 3 10 h4", "3: 1 = ADD 2 11 h1");
    }

    private static void fusedFirst() {
        Due.says("A FUSED cover, if the machine is FUSED: FUSE, of ADD, if a or b is a MUL");
        SpillslotWorks x = Told.program(0, "0: v4 = v1 * v2 + v3");
        Told.lines("a is a MUL", x, "e: 1 = LI n0 h0", "e: 2 = LI n0 h0", "e: 3 = LI n0 h0",
                "0: 4 = FUSE 1 2 3 h3");
        x.machine(8, 28, 15, false, false);
        Told.lines("the machine is not FUSED", x, "e: 1 = LI n0 h0", "e: 2 = LI n0 h0",
                "e: 3 = LI n0 h0", "0: 8 = MUL 1 2 h4", "0: 4 = ADD 8 3 h1");
    }

    private static void fusedOfBoth() {
        Due.says("(a, if both are)");
        SpillslotWorks x = Told.program(0, "0: v5 = v1 * v2 + v3 * v4");
        Told.lines("a is taken in, b is the other one", x, "e: 1 = LI n0 h0", "e: 2 = LI n0 h0",
                "e: 3 = LI n0 h0", "e: 4 = LI n0 h0", "0: 8 = MUL 3 4 h6", "0: 5 = FUSE 1 2 8 h3");
        Due.is("its cost", x.cost(6), 6);
    }

    private static void fusedSecond() {
        Due.says("(the instructions come in the order a, b of all)");
        SpillslotWorks x = Told.program(0, "0: v5 = (v1 - v2) + (v3 - v1) * (v3 - v2)");
        Told.lines("those of a, which is the other one, come first, and are read last", x,
                "e: 1 = LI n0 h0", "e: 2 = LI n0 h0", "e: 3 = LI n0 h0", "0: 8 = SUB 1 2 h4",
                "0: 9 = SUB 3 1 h4", "0: 10 = SUB 3 2 h4", "0: 5 = FUSE 9 10 8 h3");
        x.take(0);
        Told.statement(x, "0: v5 = (v3 - v1) * (v3 - v2) + (v1 - v2)");
        Told.lines("those of a, which is the MUL, come first, and are read first", x,
                "e: 1 = LI n0 h0", "e: 2 = LI n0 h0", "e: 3 = LI n0 h0", "0: 8 = SUB 3 1 h4",
                "0: 9 = SUB 3 2 h4", "0: 10 = SUB 1 2 h4", "0: 5 = FUSE 8 9 10 h3");
    }

    private static void fusedOfNothingElse() {
        Due.says("FUSE, of ADD, if a or b is a MUL");
        SpillslotWorks x = Told.program(0, "0: v4 = v1 * v2 - v3", "1: v4 = v3 - v1 * v2",
                "2: v4 = v1 * v2 * v3", "3: v4 = (v1 * v2 - v3) + v3");
        x.latency(4, 1);
        Told.lines("neither of SUB, nor of MUL, nor of an ADD of no MUL", x,
                "e: 1 = LI n0 h0", "e: 2 = LI n0 h0", "e: 3 = LI n0 h0",
                "0: 8 = MUL 1 2 h4", "0: 4 = SUB 8 3 h1", "1: 9 = MUL 1 2 h4",
                "1: 4 = SUB 3 9 h1", "2: 10 = MUL 1 2 h6", "2: 4 = MUL 10 3 h3",
                "3: 11 = MUL 1 2 h5", "3: 12 = SUB 11 3 h2", "3: 4 = ADD 12 3 h1");
    }

    private static void fusedPartsInstructions() {
        Due.says("of the VALUES of both parts of that and of the other one");
        SpillslotWorks x = Told.program(0, "0: v5 = 20 * (v1 * v2 + v3) + 30");
        Told.lines("a FUSE in a FUSE", x, "e: 1 = LI n0 h0", "e: 2 = LI n0 h0",
                "e: 3 = LI n0 h0", "0: 9 = FUSE 1 2 3 h6", "0: 8 = LI n20 h4", "0: 10 = LI n30 h4",
                "0: 5 = FUSE 8 9 10 h3");
        Due.is("cost: 3 and 1 and 3 and 1", x.cost(8), 8);
    }

    private static void ofSeveralTheFirst() {
        Due.says("a NODE has the cover with the least COST, of several the first one as they are "
                + "told here");
        SpillslotWorks x = new SpillslotWorks();
        x.out(0);
        int plain = Told.statement(x, "0: v4 = v1 * v2 + v3");
        int small = Told.statement(x, "1: v5 = v1 * v2 + 5");
        int[] plainCosts = {1, 2, 3, 4, 4, 4, 4, 4, 4};
        int[] smallCosts = {2, 3, 4, 4, 4, 4, 4, 4, 4};
        for (int cycles = 1; cycles < 10; cycles++) {
            x.latency(4, cycles);
            Due.is("cost of v1 * v2 + v3, FUSE " + cycles, x.cost(plain), plainCosts[cycles - 1]);
            Due.is("cost of v1 * v2 + 5, FUSE " + cycles, x.cost(small), smallCosts[cycles - 1]);
            // POINTS 0 to 2 are v1, v2 and v3; FUSE at 4 is as dear as MUL and ADD, and at 3
            // with the LI of 5 as dear as MUL and ADDI.
            Due.is("v4, FUSE " + cycles, x.chosen(x.ofValue(4, 0), 0), cycles < 4 ? 6 : 2);
            Due.is("v5, FUSE " + cycles, x.chosen(x.ofValue(5, 0), 0), cycles < 3 ? 6 : 5);
        }
        x.latency(4, 5);
        x.latency(3, 4);
        Due.is("v4, 5 each", x.chosen(x.ofValue(4, 0), 0), 2);
        x.latency(3, 5);
        Due.is("v4, 6 and 5", x.chosen(x.ofValue(4, 0), 0), 6);
    }

    private static void costsOfParts() {
        Due.says("(0 for a USE)");
        SpillslotWorks x = new SpillslotWorks();
        Due.is("a USE", x.cost(Told.tree(x, "v3")), 0);
        Due.is("a NUMBER", x.cost(Told.tree(x, "0")), 1);
        Due.is("a CALL of USES", x.cost(Told.tree(x, "c(v1, v1)")), 5);
        Due.is("a CALL of CALLS", x.cost(Told.tree(x, "c(c(1, v1), c(2, 3))")), 18);
        Due.is("a MUL of a MUL and an ADDI", x.cost(Told.tree(x, "v1 * v2 * (v3 + 1)")), 7);
        int last = Told.tree(x, "999");
        Due.is("the last one", x.cost(last), 1);
        Due.says("Throws `IndexOutOfBoundsException` if there is no such NODE");
        for (int node : new int[] {Integer.MIN_VALUE, -1, last + 1, 79, 80, Integer.MAX_VALUE}) {
            Due.index("cost(" + node + ")", () -> x.cost(node));
        }
        SpillslotWorks none = new SpillslotWorks();
        Due.index("without NODES: cost(0)", () -> none.cost(0));
    }

    private static void entryNone() {
        Due.says("A VARIABLE that is read ahead of being written");
        SpillslotWorks x = Told.program(14, "0: v1 = 5", "0: v2 = v1", "2: v3 = v2");
        Told.lines("none: all are written first, also BLOCKS ahead", x, "0: 1 = LI n5 h2",
                "0: 2 = MOVE 1 h1", "2: 3 = MOVE 2 h1");
        SpillslotWorks y = Told.program(0);
        Told.tree(y, "v5");
        Told.many("none: a USE that is in no STATEMENT", y, 3, 0);
        Told.statement(y, "0: v4 = v6");
        y.take(0);
        Told.many("none: one of a STATEMENT that was taken away", y, 3, 0);
    }

    private static void entryReadAhead() {
        Due.says("(STATEMENT by STATEMENT, BLOCK by BLOCK;");
        SpillslotWorks x = Told.program(0, "1: v1 = 5", "0: v2 = v1");
        Told.lines("the BLOCK that reads is ahead, though told later", x, "e: 1 = LI n0 h0",
                "0: 2 = MOVE 1 h1", "1: 1 = LI n5 h1");
        x = Told.program(0, "0: v1 = v1 + 1");
        Told.lines("by the STATEMENT that writes it", x, "e: 1 = LI n0 h0",
                "0: 1 = ADDI 1 n1 h1");
        x = Told.program(0, "3: v2 = v1", "3: v1 = 5");
        x.times(3, 9);
        Told.lines("by the STATEMENT ahead, in a BLOCK that is done nine times", x,
                "e: 1 = LI n0 h0", "3: 2 = MOVE 1 h2", "3: 1 = LI n5 h1");
        x = Told.program(0, "0: v1 = 5", "1: v1 = v1", "2: v2 = v2", "3: v2 = 6");
        Told.lines("v2 alone", x, "e: 2 = LI n0 h0", "0: 1 = LI n5 h1", "1: 1 = MOVE 1 h1",
                "2: 2 = MOVE 2 h1", "3: 2 = LI n6 h1");
    }

    private static void entryInOut() {
        Due.says("also one in OUT that is never written");
        SpillslotWorks x = Told.program(7, "3: v1 = 5");
        Told.lines("0 and 2, for v1 is written, be it at the end", x, "e: 0 = LI n0 h0",
                "e: 2 = LI n0 h0", "3: 1 = LI n5 h1");
        x.out(5);
        Told.lines("0 and 2 alone in OUT", x, "e: 0 = LI n0 h0", "e: 2 = LI n0 h0",
                "3: 1 = LI n5 h1");
        x.out(2);
        Told.lines("1 alone in OUT", x, "3: 1 = LI n5 h1");
        x.take(3);
        Told.lines("1, and nothing writes it now", x, "e: 1 = LI n0 h0");
    }

    private static void entryByNumbers() {
        Due.says("is written by an LI of 0 in the ENTRY, by numbers");
        SpillslotWorks x = Told.program(64, "0: v1 = v7 - v3", "1: v2 = v5 - v0");
        Told.lines("as numbers go, not as they are read", x, "e: 0 = LI n0 h0",
                "e: 3 = LI n0 h0", "e: 5 = LI n0 h0", "e: 6 = LI n0 h0", "e: 7 = LI n0 h0",
                "0: 1 = SUB 7 3 h1", "1: 2 = SUB 5 0 h1");
        Told.many("all of them are written once", x, 4, 7);
    }

    private static void entryOnce() {
        Due.says("that is done once ahead of BLOCK 0");
        SpillslotWorks x = Told.program(2, "0: v1 = v1 + 1");
        x.times(0, 9);
        Due.is("answer(1)", x.answer(1), 9);
        Told.many("one LI and nine ADDIS", x, 12, 10);
        Due.is("BLOCK of the LI", x.chosen(0, 6), -1);
        Due.is("HEIGHT of the LI", x.chosen(0, 7), 0);
        Due.is("BLOCK of the ADDI", x.chosen(1, 6), 0);
    }
}
