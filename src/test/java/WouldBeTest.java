/** Promises 19 to 23: with, cyclesWith, enough, unordered, digest. */
public final class WouldBeTest {
    public static void main(String[] args) {
        withAnotherMachine();
        withByHand();
        withRefused();
        cyclesByHand();
        cyclesAsTold();
        cyclesRefused();
        enoughByHand();
        enoughWithCalls();
        unorderedByHand();
        digestOfNothing();
        digestOfAll();
        digestChangesNothing();
        Due.end();
    }

    /** Loops, CALLS, and more lives than REGISTERS. */
    private static SpillslotWorks program() {
        SpillslotWorks x = new SpillslotWorks();
        x.out(0b1011011);
        x.statement(0, 0, Trees.add(x, Trees.mul(x, Trees.use(x, 1), Trees.use(x, 2)),
                Trees.sub(x, Trees.use(x, 3), Trees.num(x, 200))));
        x.statement(0, 4, Trees.num(x, 42));
        x.statement(1, 1, Trees.call(x, Trees.use(x, 0), Trees.add(x, Trees.use(x, 4),
                Trees.num(x, -9))));
        x.statement(1, 5, Trees.mul(x, Trees.use(x, 1), Trees.use(x, 5)));
        x.statement(1, 3, Trees.call(x, Trees.num(x, 17), Trees.use(x, 3)));
        x.statement(2, 6, Trees.sub(x, Trees.mul(x, Trees.use(x, 1), Trees.use(x, 3)),
                Trees.mul(x, Trees.use(x, 6), Trees.use(x, 7))));
        x.statement(3, 2, Trees.use(x, 6));
        x.statement(3, 7, Trees.add(x, Trees.use(x, 2), Trees.num(x, 1)));
        x.times(1, 3);
        x.times(3, 2);
        return x;
    }

    private static void withAnotherMachine() {
        int[][] machines = {{5, 0}, {6, 0}, {6, 4}, {7, 8}, {8, 28}, {9, 16}, {11, 252}};
        for (int[] m : machines) {
            for (int two = 0; two < 2; two++) {
                SpillslotWorks x = program();
                SpillslotWorks y = program();
                boolean isTwo = two == 1;
                y.machine(m[0], m[1], 15, true, isTwo);
                for (int what = 3; what < 16; what++) {
                    Due.is("with(" + m[0] + ", " + m[1] + ", " + isTwo + ", " + what + ")",
                            x.with(m[0], m[1], isTwo, what), y.many(what));
                }
                Due.is("digest() behind with(..)", x.digest(), program().digest());
            }
        }
    }

    private static void withByHand() {
        SpillslotWorks x = new SpillslotWorks();
        x.out(255);
        Due.is("with(5, 0, false, 3)", x.with(5, 0, false, 3), 8);
        Due.is("with(5, 0, false, 5)", x.with(5, 0, false, 5), 6);
        Due.is("with(5, 0, false, 6)", x.with(5, 0, false, 6), 6);
        Due.is("with(11, 0, false, 5)", x.with(11, 0, false, 5), 0);
        Due.is("with(11, 252, false, 8)", x.with(11, 252, false, 8), 6);
        Due.is("with(11, 4, false, 8)", x.with(11, 4, false, 8), 2);
        Due.is("with(5, 0, false, 9)", x.with(5, 0, false, 9), 2);
        Due.is("with(11, 0, false, 15)", x.with(11, 0, false, 15), 8);
        x.latency(0, 9);
        Due.is("with(11, 0, false, 13): LATENCIES as they are", x.with(11, 0, false, 13), 16);
        SpillslotWorks y = new SpillslotWorks();
        y.machine(8, 0, 3, false, true);
        y.statement(0, 0, Trees.add(y, Trees.mul(y, Trees.use(y, 1), Trees.use(y, 2)),
                Trees.num(y, 4)));
        Due.is("with(..): SMALL and FUSED as they are", y.with(9, 4, false, 3), 5);
        y.machine(8, 0, 4, false, true);
        Due.is("with(..): SMALL as it is now", y.with(9, 4, false, 3), 4);
    }

    private static void withRefused() {
        SpillslotWorks x = new SpillslotWorks();
        Due.argument("with(4, 0, true, 3)", () -> x.with(4, 0, true, 3));
        Due.argument("with(12, 0, true, 3)", () -> x.with(12, 0, true, 3));
        Due.argument("with(8, -1, true, 3)", () -> x.with(8, -1, true, 3));
        Due.argument("with(8, 2, true, 3)", () -> x.with(8, 2, true, 3));
        Due.argument("with(8, 32, true, 3)", () -> x.with(8, 32, true, 3));
        Due.argument("with(5, 4, true, 3)", () -> x.with(5, 4, true, 3));
        Due.argument("with(8, 28, true, 2)", () -> x.with(8, 28, true, 2));
        Due.argument("with(8, 28, true, 16)", () -> x.with(8, 28, true, 16));
        Due.argument("with(8, 28, true, -1)", () -> x.with(8, 28, true, -1));
        Due.is("with(8, 28, true, 3)", x.with(8, 28, true, 3), 1);
    }

    private static void cyclesByHand() {
        SpillslotWorks x = new SpillslotWorks();
        x.statement(0, 0, Trees.add(x, Trees.mul(x, Trees.use(x, 1), Trees.use(x, 2)),
                Trees.use(x, 3)));
        // LI, LI, LI, FUSE in 3.
        Due.is("cyclesWith(4, 3)", x.cyclesWith(4, 3), 6);
        Due.is("cyclesWith(4, 1)", x.cyclesWith(4, 1), 4);
        // MUL in 3, ADD in 6: it is chosen anew.
        Due.is("cyclesWith(4, 9)", x.cyclesWith(4, 9), 7);
        Due.is("cyclesWith(3, 1): MUL and ADD then", x.cyclesWith(3, 1), 5);
        Due.is("cyclesWith(0, 9): the last LI is ready in 11", x.cyclesWith(0, 9), 14);
        Due.is("cycles", x.many(13), 6);
        Due.is("LATENCIES are as they were", x.latency(4, 3), 3);
        Due.is("those too", x.latency(0, 1), 1);
        x.out(0);
        x.take(0);
        Due.is("cyclesWith(0, 9) of nothing", x.cyclesWith(0, 9), 0);
    }

    private static void cyclesAsTold() {
        for (int kind = 0; kind < 8; kind++) {
            for (int cycles = 1; cycles < 10; cycles++) {
                SpillslotWorks x = program();
                SpillslotWorks y = program();
                y.latency(kind, cycles);
                Due.is("cyclesWith(" + kind + ", " + cycles + ")", x.cyclesWith(kind, cycles),
                        y.many(13));
                Due.is("and nothing is changed", x.many(13), program().many(13));
            }
        }
    }

    private static void cyclesRefused() {
        SpillslotWorks x = new SpillslotWorks();
        Due.index("cyclesWith(-1, 1)", () -> x.cyclesWith(-1, 1));
        Due.index("cyclesWith(8, 1)", () -> x.cyclesWith(8, 1));
        Due.index("cyclesWith(8, 0): the index first", () -> x.cyclesWith(8, 0));
        Due.argument("cyclesWith(0, 0)", () -> x.cyclesWith(0, 0));
        Due.argument("cyclesWith(0, 10)", () -> x.cyclesWith(0, 10));
    }

    private static void enoughByHand() {
        SpillslotWorks x = new SpillslotWorks();
        for (int count = 0; count <= 8; count++) {
            x.out((1 << count) - 1);
            Due.is("enough() for " + count, x.enough(), count < 3 ? 5 : count + 3);
        }
        Due.is("registers are as they were", x.machine(8, 28, 15, true, false), 8);
        x.statement(0, 0, Trees.sub(x, Trees.use(x, 0), Trees.sub(x, Trees.use(x, 1),
                Trees.use(x, 2))));
        Due.is("nine lives at once: NONE", x.enough(), -1);
    }

    private static void enoughWithCalls() {
        SpillslotWorks x = new SpillslotWorks();
        x.statement(0, 1, Trees.call(x, Trees.use(x, 2), Trees.use(x, 3)));
        x.statement(0, 0, Trees.add(x, Trees.use(x, 2), Trees.use(x, 3)));
        // Two cross the CALL: 2 and 3 are below S with seven.
        Due.is("enough() with 2, 3, 4 kept", x.enough(), 7);
        x.machine(8, 16, 15, true, false);
        Due.is("enough() with 4 kept", x.enough(), -1);
        x.machine(8, 24, 15, true, false);
        Due.is("enough() with 3 and 4 kept", x.enough(), 8);
        x.machine(11, 192, 15, true, false);
        Due.is("enough() with 6 and 7 kept", x.enough(), 11);
        x.machine(8, 0, 15, true, false);
        Due.is("enough() with none kept", x.enough(), -1);
    }

    private static void unorderedByHand() {
        SpillslotWorks x = new SpillslotWorks();
        x.out(0);
        x.statement(0, 5, Trees.num(x, 5));
        x.statement(0, 2, Trees.mul(x, Trees.use(x, 3), Trees.use(x, 4)));
        x.statement(0, 6, Trees.num(x, 6));
        x.statement(0, 7, Trees.num(x, 7));
        x.statement(0, 2, Trees.add(x, Trees.use(x, 2), Trees.num(x, 1)));
        // In order: MUL in 2, three LIS, ADDI in 6. Unordered: MUL in 3, two LIS, ADDI in 6.
        Due.is("cycles", x.many(13), 7);
        Due.is("unordered(): none lost", x.unordered(), 0);
        x.latency(3, 9);
        // MUL in 2, ready in 11; or in 3, ready in 12.
        Due.is("unordered(): one lost", x.unordered(), 1);
        Due.is("cycles are as they were", x.many(13), 12);
        x.times(0, 3);
        // Each round takes ten CYCLES from its MUL on, and the LI ahead of it is one more.
        Due.is("unordered() in three rounds", x.unordered(), 3);
        Due.is("chosen(2, 0) is as it was", x.chosen(2, 0), 4);
        SpillslotWorks y = new SpillslotWorks();
        Due.is("unordered() of an ENTRY alone", y.unordered(), 0);
    }

    private static void digestOfNothing() {
        SpillslotWorks x = new SpillslotWorks();
        x.out(0);
        long d = 58132;
        // many() and meant() are 0 all; enough() 5, unordered() 0, with() 0 and 0.
        for (int k = 0; k < 24; k++) {
            d *= 31;
        }
        d = d * 31 + 5;
        d = d * 31 * 31 * 31;
        Due.is("digest() of nothing", x.digest(), d);
    }

    private static void digestOfAll() {
        SpillslotWorks x = program();
        Due.is("digest()", x.digest(), digestOf(x, 0b1011011));
        x.machine(6, 4, 3, false, true);
        Due.is("digest() of a small machine", x.digest(), digestOf(x, 0b1011011));
        x.machine(5, 0, 3, true, false);
        x.latency(5, 9);
        Due.is("digest() of the smallest", x.digest(), digestOf(x, 0b1011011));
        x.take(1);
        x.out(255);
        Due.is("digest() with all in OUT", x.digest(), digestOf(x, 255));
    }

    /** Put together from what the other methods answer. */
    static long digestOf(SpillslotWorks x, int out) {
        long d = 58132;
        for (int what = 0; what < 16; what++) {
            d = d * 31 + x.many(what);
        }
        for (int v = 0; v < 8; v++) {
            d = d * 31 + x.meant(v);
        }
        for (int v = 0; v < 8; v++) {
            if ((out >> v & 1) == 1) {
                d = d * 31 + x.answer(v);
            }
        }
        int calls = 0;
        for (int p = 0; p < x.many(3); p++) {
            calls += x.chosen(p, 0) == 9 ? 1 : 0;
            for (int what = 0; what < 8; what++) {
                d = d * 31 + x.chosen(p, what);
            }
        }
        for (int v = 0; v < 88; v++) {
            if (isInAnInstruction(x, v)) {
                d = d * 31 + v;
                for (int what = 0; what < 8; what++) {
                    d = d * 31 + x.ofValue(v, what);
                }
            }
        }
        for (int c = 0; c < calls; c++) {
            for (int what = 0; what < 4; what++) {
                d = d * 31 + x.mapAt(c, what);
            }
        }
        for (int k = 0; k < x.many(9); k++) {
            for (int what = 0; what < 6; what++) {
                d = d * 31 + x.code(k, what);
            }
            d = d * 31 + x.begins(k);
        }
        d = d * 31 + x.enough();
        d = d * 31 + x.unordered();
        d = d * 31 + x.with(6, 4, true, 9);
        return d * 31 + x.with(6, 4, true, 13);
    }

    private static boolean isInAnInstruction(SpillslotWorks x, int value) {
        try {
            x.ofValue(value, 0);
            return true;
        } catch (IndexOutOfBoundsException e) {
            return false;
        }
    }

    private static void digestChangesNothing() {
        SpillslotWorks x = program();
        long d = x.digest();
        Due.is("digest() again", x.digest(), d);
        Due.is("digest() of another one like it", program().digest(), d);
        x.unordered();
        x.with(5, 0, true, 13);
        x.cyclesWith(2, 9);
        x.enough();
        Due.is("digest() behind all that would be", x.digest(), d);
        Due.is("machine(..)", x.machine(8, 28, 15, true, false), 8);
        Due.is("digest() with the same machine told", x.digest(), d);
    }
}
