/** The bounds of promises 19 to 23, sentence by sentence. */
public final class EdgeWouldBeTest {
    public static void main(String[] args) {
        withRegisters();
        withKept();
        withWhat();
        withSmallAndFused();
        withTwo();
        withNothing();
        cyclesBounds();
        cyclesOfTheSame();
        cyclesBehindTake();
        cyclesOfOther();
        enoughAtLeastFive();
        enoughAtMostEleven();
        enoughNone();
        enoughKept();
        enoughNotCrossing();
        enoughWithTwo();
        unorderedNone();
        unorderedLonger();
        unorderedShorter();
        digestOfNothing();
        digestOfOne();
        digestWraps();
        digestOfWith();
        nothingIsChanged();
        machineIsAsTold();
        Due.end();
    }

    private static SpillslotWorks rich() {
        SpillslotWorks x = Told.program(173, "0: v0 = v1 * v2 + (v3 - 20)", "0: v4 = 42",
                "1: v1 = c(v0, v4 + -9)", "1: v5 = v1 * v5", "1: v3 = c(17, v3)",
                "2: v6 = v1 * v3 - v6 * v7", "3: v2 = v6", "3: v7 = v2 + 1");
        x.times(1, 3);
        x.times(3, 2);
        return x;
    }

    private static void withRegisters() {
        Due.says("Throws `IllegalArgumentException` if registers is not 5 to 11");
        SpillslotWorks x = rich();
        for (int registers : new int[] {Integer.MIN_VALUE, -1, 0, 4, 12, 13, 40,
            Integer.MAX_VALUE}) {
            Due.argument("with(" + registers + ", ..)", () -> x.with(registers, 0, false, 9));
        }
        for (int registers = 5; registers <= 11; registers++) {
            SpillslotWorks y = rich();
            y.machine(registers, 0, 15, true, false);
            for (int what = 3; what < 16; what++) {
                Due.is("with(" + registers + ", 0, false, " + what + ")",
                        x.with(registers, 0, false, what), y.many(what));
            }
        }
    }

    private static void withKept() {
        Due.says("kept is below 0, or has one that is not from 2 to S - 1");
        for (int registers = 5; registers <= 11; registers++) {
            SpillslotWorks x = rich();
            int r = registers;
            int s = registers - 3;
            int all = (1 << s) - 4;
            for (int k = 0; k < 32; k++) {
                int kept = 1 << k;
                if (k < 2 || k >= s) {
                    Due.argument("with(" + r + ", " + kept + ", ..)",
                            () -> x.with(r, kept, true, 13));
                    Due.argument("with(" + r + ", " + (all | kept) + ", ..)",
                            () -> x.with(r, all | kept, true, 13));
                } else {
                    SpillslotWorks y = rich();
                    y.machine(r, kept, 15, true, true);
                    Due.is("with(" + r + ", " + kept + ", ..)", x.with(r, kept, true, 13),
                            y.many(13));
                }
            }
            Due.argument("with(" + r + ", -4, ..)", () -> x.with(r, -4, true, 13));
            SpillslotWorks z = rich();
            z.machine(r, all, 15, true, false);
            Due.is("with(" + r + ", " + all + ", ..)", x.with(r, all, false, 8), z.many(8));
        }
    }

    private static void withWhat() {
        Due.says("or what is not 3 to 15");
        SpillslotWorks x = rich();
        for (int what : new int[] {Integer.MIN_VALUE, -1, 0, 1, 2, 16, 17, Integer.MAX_VALUE}) {
            Due.argument("with(8, 28, false, " + what + ")", () -> x.with(8, 28, false, what));
        }
        for (int what = 3; what < 16; what++) {
            Due.is("as it is now: " + what, x.with(8, 28, false, what), x.many(what));
        }
    }

    private static void withSmallAndFused() {
        Due.says("Returns that, with such a machine, SMALL and FUSED as they are.");
        SpillslotWorks x = Told.program(0, "0: v1 = v2 + 99", "1: v3 = v1 * v2 + v1");
        int[][] points = {{5, 4}, {4, 3}};
        for (int fused = 0; fused < 2; fused++) {
            for (int small = 98; small < 100; small++) {
                x.machine(8, 28, small, fused == 1, false);
                // The ENTRY, one more for the LI of 99, and one more for MUL and ADD.
                int due = points[fused][small - 98];
                Due.is("SMALL " + small + ", FUSED " + fused, x.with(6, 4, true, 3), due);
                Due.is("SMALL " + small + ", FUSED " + fused, x.many(3), due);
            }
        }
        x.latency(0, 9);
        // LI in 0, ADDI in 9, FUSE in 10 and MOVE ahead or not; LATENCIES are as they are, too.
        Due.is("LATENCIES as they are", x.with(8, 28, false, 13), 13);
    }

    private static void withTwo() {
        Due.says("`isTwo`: whether it was TWO");
        SpillslotWorks x = Told.program(7, "0: v0 = v1 - v2");
        Due.is("MOVES, TWO", x.with(8, 28, true, 10), 1);
        Due.is("MOVES, not TWO", x.with(8, 28, false, 10), 0);
        x.machine(8, 28, 15, true, true);
        Due.is("MOVES, TWO, as it is", x.with(8, 28, true, 10), 1);
        Due.is("MOVES, not TWO, as it is", x.with(8, 28, false, 10), 0);
    }

    private static void withNothing() {
        Due.says("`what`: as with many(), 3 to 15");
        SpillslotWorks x = Told.program(0);
        for (int what = 3; what < 16; what++) {
            Due.is("with(5, 0, true, " + what + ") of nothing", x.with(5, 0, true, what), 0);
            Due.is("with(11, 252, true, " + what + ") of nothing", x.with(11, 252, true, what), 0);
        }
    }

    private static void cyclesBounds() {
        SpillslotWorks x = rich();
        Due.says("Throws `IndexOutOfBoundsException` if there is no such kind");
        for (int kind : new int[] {Integer.MIN_VALUE, -1, 8, 9, Integer.MAX_VALUE}) {
            for (int cycles = -1; cycles < 12; cycles++) {
                int c = cycles;
                Due.index("cyclesWith(" + kind + ", " + c + ")", () -> x.cyclesWith(kind, c));
            }
        }
        Due.says("Throws `IllegalArgumentException` if cycles is not 1 to 9");
        for (int kind = 0; kind < 8; kind++) {
            int k = kind;
            for (int cycles : new int[] {Integer.MIN_VALUE, -1, 0, 10, 11, Integer.MAX_VALUE}) {
                Due.argument("cyclesWith(" + k + ", " + cycles + ")",
                        () -> x.cyclesWith(k, cycles));
            }
            for (int cycles = 1; cycles < 10; cycles++) {
                SpillslotWorks y = rich();
                y.latency(k, cycles);
                Due.is("cyclesWith(" + k + ", " + cycles + ")", x.cyclesWith(k, cycles),
                        y.many(13));
            }
        }
    }

    private static void cyclesOfTheSame() {
        Due.says("Returns how many CYCLES a RUN would have with that.");
        SpillslotWorks x = rich();
        int[] latencies = {1, 1, 1, 3, 3, 2, 1, 5};
        for (int kind = 0; kind < 8; kind++) {
            Due.is("cyclesWith(" + kind + ", as it is)", x.cyclesWith(kind, latencies[kind]),
                    x.many(13));
        }
        SpillslotWorks none = Told.program(0);
        Due.is("of nothing", none.cyclesWith(0, 9), 0);
    }

    private static void cyclesBehindTake() {
        Due.says("Returns how many CYCLES a RUN would have with that.");
        SpillslotWorks x = Told.program(0, "0: v0 = v1 + v1", "0: v2 = v3 * v3");
        x.unordered();
        x.take(0);
        Due.is("what was taken away has no say", x.cyclesWith(3, 9), 2);
        Due.is("unordered() behind it", x.unordered(), 0);
        Due.is("with() behind it", x.with(5, 0, true, 13), 2);
        x.take(0);
        Due.is("nothing is left: cyclesWith()", x.cyclesWith(2, 9), 0);
        Due.is("nothing is left: unordered()", x.unordered(), 0);
    }

    private static void cyclesOfOther() {
        Due.says("Returns how many CYCLES a RUN would have with that.");
        SpillslotWorks x = Told.program(0, "0: v4 = v1 * v2 + v3", "0: v5 = v1 - v2");
        // LIS in 0 to 2, FUSE in 3 (it is higher), SUB in 4.
        Told.many("as it is", x, 13, 5);
        Due.is("FUSE at 4: MUL in 3, ADD in 6, SUB in 7", x.cyclesWith(4, 4), 8);
        Due.is("SUB at 4: it is ahead of FUSE", x.cyclesWith(2, 4), 7);
        Due.is("LI at 9: FUSE in 11, SUB in 12", x.cyclesWith(0, 9), 13);
        Due.is("MUL at 1: in 3, ADD in 4, SUB in 5", x.cyclesWith(3, 1), 6);
    }

    private static void enoughAtLeastFive() {
        Due.says("Returns how many REGISTERS (5 to 11) are the fewest with which nothing is "
                + "SPILLED");
        for (int v = 0; v < 3; v++) {
            SpillslotWorks x = Told.program((1 << v) - 1);
            Due.is(v + " at once", x.enough(), 5);
            x.machine(11, 0, 15, true, false);
            Due.is(v + " at once, of 11", x.enough(), 5);
        }
        Due.is("three at once", Told.program(7).enough(), 6);
    }

    private static void enoughAtMostEleven() {
        Due.says("Returns how many REGISTERS (5 to 11) are the fewest with which nothing is "
                + "SPILLED");
        SpillslotWorks x = Told.program(255);
        Due.is("eight at once", x.enough(), 11);
        x.machine(5, 0, 15, true, false);
        Due.is("eight at once, of 5", x.enough(), 11);
        Due.is("seven at once", Told.program(127).enough(), 10);
    }

    private static void enoughNone() {
        Due.says("NONE without any.");
        SpillslotWorks x = Told.program(255, "0: v0 = v0 - (v1 - v2)");
        Due.is("nine at once", x.enough(), -1);
        x.machine(11, 252, 15, true, true);
        Due.is("nine at once, of 11", x.enough(), -1);
        SpillslotWorks y = Told.program(2, "0: v0 = c(v1, v1)");
        y.machine(8, 0, 15, true, false);
        Due.is("one CROSSES, and none is KEPT", y.enough(), -1);
    }

    private static void enoughKept() {
        Due.says("with those that are KEPT now (as far as they are below S then)");
        for (int k = 2; k < 8; k++) {
            SpillslotWorks x = Told.program(2, "0: v0 = c(v1, v1)");
            x.machine(11, 1 << k, 15, true, false);
            Due.is(k + " is KEPT, and below S with " + (k + 4), x.enough(), k + 4);
        }
        SpillslotWorks x = Told.program(6, "0: v0 = c(v1, v2)");
        x.machine(11, 4 + 64, 15, true, false);
        Due.is("2 and 6 are KEPT, and two CROSS", x.enough(), 10);
        x.machine(11, 4 + 8, 15, true, false);
        Due.is("2 and 3 are KEPT", x.enough(), 7);
        x.machine(11, 128, 15, true, false);
        Due.is("7 alone is KEPT", x.enough(), -1);
    }

    private static void enoughNotCrossing() {
        Due.says("the fewest with which nothing is SPILLED");
        // v1, v2 and v3 at POINT 2, of which none CROSSES the CALL behind them.
        SpillslotWorks x = Told.program(0, "0: v3 = v1 - v2", "0: v4 = v1 - v2",
                "0: v5 = v3 - v4", "1: v6 = c(7, 8)");
        x.machine(8, 0, 15, true, false);
        Due.is("three at once, and none CROSSES", x.enough(), 6);
    }

    private static void enoughWithTwo() {
        Due.says("the fewest with which nothing is SPILLED");
        // v3 is in 2, and v4 of it begins as v3 and v1 end: TWO likes 2, which v5 needs.
        SpillslotWorks x = Told.program(0, "0: v4 = v3 - v1", "1: v5 = 9", "1: v6 = v4 - v2",
                "2: v7 = c(7, 8)", "3: v0 = v5");
        x.machine(8, 4, 15, true, true);
        Due.is("2 is KEPT, TWO", x.enough(), -1);
        x.with(8, 4, false, 5);
        Due.is("TWO, behind a question for another machine", x.enough(), -1);
        x.machine(8, 4, 15, true, false);
        Due.is("2 is KEPT, not TWO", x.enough(), 6);
        x.with(8, 4, true, 5);
        Due.is("not TWO, behind a question for another machine", x.enough(), 6);
        x.machine(8, 12, 15, true, true);
        Due.is("2 and 3 are KEPT, TWO", x.enough(), 7);
    }

    private static void unorderedNone() {
        Due.says("Returns by how many CYCLES a RUN would be longer");
        Due.is("nothing", Told.program(0).unordered(), 0);
        Due.is("an ENTRY alone", Told.program(255).unordered(), 0);
        SpillslotWorks x = Told.program(0, "0: v1 = v2 * v3", "1: v4 = v1 + 1", "2: v5 = v1 - v4");
        x.times(0, 9);
        Due.is("one in each BLOCK", x.unordered(), 0);
    }

    private static void unorderedLonger() {
        Due.says("if all instructions in the BLOCKS stayed as they were chosen");
        SpillslotWorks x = Told.program(0, "0: v1 = 20", "0: v2 = v3 * v3", "0: v4 = v2 + 1");
        // LI; MUL in 1, LI, ADDI in 4. Unordered: LI, MUL in 2, ADDI in 5.
        Told.many("in order", x, 13, 5);
        Due.is("one longer", x.unordered(), 1);
        x.latency(3, 9);
        Due.is("one longer, with a MUL of 9", x.unordered(), 1);
        // In order: each round MUL, LI, ADDI, and the next MUL one behind that.
        x.times(0, 9);
        Due.is("one longer in each round", x.unordered(), 9);
        Told.lines("and the order is as it was", x, "e: 3 = LI n0 h0", "0: 2 = MUL 3 3 h10",
                "0: 1 = LI n20 h1", "0: 4 = ADDI 2 n1 h1");
    }

    private static void unorderedShorter() {
        Due.says("(below 0: shorter)");
        SpillslotWorks x = Told.program(2, "0: v1 = v2 + v4", "0: v0 = v4", "0: v0 = v0");
        // In order the MOVE is ahead of the ADD, v4 goes on, and the MOVE stays; unordered v4 ends
        // at the MOVE, which is left out.
        Told.many("in order", x, 13, 4);
        Due.is("one shorter", x.unordered(), -1);
        x.times(0, 9);
        Due.is("v4 goes on in both", x.unordered(), 0);
    }

    private static void digestOfNothing() {
        Due.says("A number d starts with 58132; for each of the following numbers v, d "
                + "becomes d * 31 "
                + "+ v");
        // many() and meant() are 24 times 0; enough() is 5; unordered() and with() are 3 times 0.
        long d = 58132L;
        for (int k = 0; k < 24; k++) {
            d = d * 31;
        }
        Due.is("nothing at all", Told.program(0).digest(), (d * 31 + 5) * 31 * 31 * 31);
    }

    private static void digestOfOne() {
        Due.says("many() of 0 to 15; meant() of each VARIABLE, and answer() of each in OUT;");
        SpillslotWorks x = Told.program(4, "1: v2 = c(-7, v2)");
        long[] all = {
            // many(): NODES to VALUES, SPILLED to FRAME, CODE to STALLS, most LIVES.
            3, 0, 1, 3, 2, 0, 0, 0, 2, 5, 2, 0, 5, 9, 4, 2,
            // meant() of all, and answer() of v2.
            0, 0, -20, 0, 0, 0, 0, 0, -20,
            // The LI of the ENTRY, that of -7, and the CALL.
            0, 2, -1, -1, -1, 0, -1, 0,
            0, 8, -1, -1, -1, -7, 1, 6,
            9, 2, 8, 2, -1, 0, 1, 5,
            // v2, which begins in the ENTRY, is in OUT, and CROSSES the CALL; then 8.
            2, 0, 3, 75, 2, -1, 0, 1, 3,
            8, 1, 2, 100, 0, -1, 0, 0, 2,
            // The CALL.
            2, 4, 0, 0,
            // LI 2 0, LI 0 -7, MOVE 1 2, CALL, MOVE 2 0: each with its POINT and its begin.
            0, 2, 0, 0, 0, 0, 0,
            0, 0, -7, 0, 0, 1, 1,
            1, 1, 2, 0, 0, 2, 2,
            9, 0, 0, 0, 0, 2, 3,
            1, 2, 0, 0, 0, 2, 8,
            // enough(), unordered(), with(6, 4, true, 9 and 13).
            6, 0, 5, 9};
        long d = 58132L;
        for (long v : all) {
            d = d * 31 + v;
        }
        Due.is("digest()", x.digest(), d);
    }

    private static void digestWraps() {
        Due.says("which wraps around as a 64-bit integer");
        SpillslotWorks x = Told.program(0);
        java.math.BigInteger d = java.math.BigInteger.valueOf(58132);
        java.math.BigInteger by = java.math.BigInteger.valueOf(31);
        for (int k = 0; k < 28; k++) {
            d = d.multiply(by).add(java.math.BigInteger.valueOf(k == 24 ? 5 : 0));
        }
        Due.isTrue("it is longer than 64 bits", d.bitLength() > 64);
        Due.is("its last 64 bits", x.digest(), d.longValue());
    }

    private static void digestOfWith() {
        Due.says("with() of 6, 4, true, and 9, then 13");
        // v1 CROSSES the CALL; behind it are four VALUES at once, and SUBS that TWO does otherwise.
        SpillslotWorks x = Told.program(2, "0: v4 = c(v1, v1)",
                "1: v0 = (v1 - v4) * (v4 - v1) - (v4 - v1) * (v4 - v1)");
        int due9 = x.with(6, 4, true, 9);
        int due13 = x.with(6, 4, true, 13);
        int[][] others = {{5, 0, 1}, {7, 4, 1}, {6, 0, 1}, {6, 4, 0}};
        for (int[] o : others) {
            Due.isTrue("another machine answers otherwise: " + o[0] + " " + o[1] + " " + o[2],
                    x.with(o[0], o[1], o[2] == 1, 9) != due9
                    || x.with(o[0], o[1], o[2] == 1, 13) != due13);
        }
        Due.isTrue("9 and 13 are not the same", due9 != due13);
        Due.is("digest()", x.digest(), WouldBeTest.digestOf(x, 2));
    }

    private static void nothingIsChanged() {
        Due.says("what would be (nothing is changed)");
        SpillslotWorks x = rich();
        long before = x.digest();
        for (int registers = 5; registers <= 11; registers++) {
            x.with(registers, 0, true, 13);
            Due.is("digest() behind with(" + registers + ", ..)", x.digest(), before);
        }
        for (int kind = 0; kind < 8; kind++) {
            x.cyclesWith(kind, 9);
            Due.is("digest() behind cyclesWith(" + kind + ", 9)", x.digest(), before);
        }
        x.enough();
        Due.is("digest() behind enough()", x.digest(), before);
        x.unordered();
        Due.is("digest() behind unordered()", x.digest(), before);
        x.with(5, 0, true, 13);
        x.cyclesWith(0, 9);
        Due.is("machine(..) answers as ever", x.machine(8, 28, 15, true, false), 8);
        int[] latencies = {1, 1, 1, 3, 3, 2, 1, 5};
        for (int kind = 0; kind < 8; kind++) {
            Due.is("latency(" + kind + ", ..)", x.latency(kind, latencies[kind]), latencies[kind]);
        }
        Due.is("digest() with all told as it was", x.digest(), before);
    }

    private static void machineIsAsTold() {
        Due.says("what would be (nothing is changed)");
        int[][] machines = {{5, 0, 30, 1}, {6, 4, 5, 0}, {9, 48, 99, 0}, {11, 252, 0, 1}};
        for (int[] m : machines) {
            for (int two = 0; two < 2; two++) {
                SpillslotWorks x = rich();
                x.latency(5, 7);
                x.machine(m[0], m[1], m[2], m[3] == 1, two == 1);
                int cycles = x.many(13);
                int longer = x.unordered();
                String name = "machine " + m[0] + ", " + m[1] + ", TWO " + two;
                x.with(8, 28, two == 0, 13);
                Due.is(name + ": cyclesWith() of the same", x.cyclesWith(5, 7), cycles);
                x.with(7, 8, two == 0, 13);
                Due.is(name + ": unordered()", x.unordered(), longer);
                x.cyclesWith(5, 1);
                Due.is(name + ": unordered() behind cyclesWith()", x.unordered(), longer);
                SpillslotWorks y = rich();
                y.with(8, 28, two == 0, 13);
                y.latency(5, 7);
                y.machine(m[0], m[1], m[2], m[3] == 1, two == 1);
                y.latency(0, 4);
                x.enough();
                Due.is(name + ": cyclesWith() of another", x.cyclesWith(0, 4), y.many(13));
                Due.is(name + ": with() of the same", x.with(m[0], m[1], two == 1, 13), cycles);
            }
        }
    }
}
