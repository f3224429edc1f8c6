/** Promises 1 to 3: a new object, machine, latency. */
public final class MachineTest {
    public static void main(String[] args) {
        newObject();
        machineAnswersAndTakes();
        machineRefuses();
        latencyAnswersAndTakes();
        latencyRefuses();
        Due.end();
    }

    private static void newObject() {
        SpillslotWorks x = new SpillslotWorks();
        Due.is("new: nodes", x.many(0), 0);
        Due.is("new: statements", x.many(2), 0);
        // OUT is {0} at first, and 0 is never written: an LI of 0 in the ENTRY, REMADE or not.
        Due.is("new: points", x.many(3), 1);
        Due.is("new: chosen(0, 0)", x.chosen(0, 0), 0);
        Due.is("new: chosen(0, 1)", x.chosen(0, 1), 0);
        Due.is("new: chosen(0, 6)", x.chosen(0, 6), -1);
        Due.is("new: chosen(0, 7)", x.chosen(0, 7), 0);
        Due.is("new: answer(0)", x.answer(0), 0);
        Due.is("new: length of the code", x.many(9), 1);
        Due.is("new: cycles", x.many(13), 1);
        for (int variable = 0; variable < 8; variable++) {
            Due.is("new: meant(" + variable + ")", x.meant(variable), 0);
        }
        int[] latencies = {1, 1, 1, 3, 3, 2, 1, 5};
        for (int kind = 0; kind < 8; kind++) {
            Due.is("new: latency(" + kind + ", 1)", x.latency(kind, 1), latencies[kind]);
        }
        for (int block = 0; block < 4; block++) {
            Due.is("new: times(" + block + ", 1)", x.times(block, 1), 1);
        }
        Due.is("new: out(0)", x.out(0), 1);
        Due.is("new, out(0): points", x.many(3), 0);
        Due.is("new, out(0): cycles", x.many(13), 0);
        Due.is("new, out(0): most lives", x.many(15), 0);
        Due.isTrue("new, out(0): meanStall() is 0", x.meanStall() == 0.0);
        Due.is("new, out(0): enough()", x.enough(), 5);
    }

    private static void machineAnswersAndTakes() {
        SpillslotWorks x = new SpillslotWorks();
        Due.is("machine(5, ..)", x.machine(5, 0, 0, true, true), 8);
        Due.is("machine(11, ..)", x.machine(11, 252, 99, false, false), 5);
        Due.is("machine(6, ..)", x.machine(6, 4, 15, true, false), 11);
        Due.is("machine(8, ..)", x.machine(8, 28, 15, true, false), 6);
        Due.is("machine(8, ..) again", x.machine(8, 0, 15, true, false), 8);
        x.latency(3, 7);
        x.machine(7, 12, 1, false, false);
        Due.is("latency(3, 3) behind machine(..): it stayed", x.latency(3, 3), 7);
        whatAMachineChanges();
    }

    private static void whatAMachineChanges() {
        SpillslotWorks x = new SpillslotWorks();
        x.node(1, 1, 0);
        x.node(1, 2, 0);
        x.node(4, 0, 1);
        x.node(0, 15, 0);
        x.node(2, 2, 3);
        x.statement(0, 0, 4);
        Due.is("small 15: chosen(3, 0)", x.chosen(3, 0), 5);
        x.machine(8, 28, 14, true, false);
        Due.is("small 14, fused: chosen(2, 0)", x.chosen(2, 0), 0);
        Due.is("small 14, fused: chosen(3, 0)", x.chosen(3, 0), 6);
        x.machine(8, 28, 14, false, false);
        Due.is("small 14, not fused: many(3)", x.many(3), 5);
    }

    private static void machineRefuses() {
        SpillslotWorks x = new SpillslotWorks();
        x.machine(7, 8, 3, false, true);
        Due.argument("machine(4, ..)", () -> x.machine(4, 0, 0, true, true));
        Due.argument("machine(12, ..)", () -> x.machine(12, 0, 0, true, true));
        Due.argument("machine(int's least, ..)",
                () -> x.machine(Integer.MIN_VALUE, 0, 0, true, true));
        Due.argument("kept -1", () -> x.machine(8, -1, 0, true, true));
        Due.argument("kept of all bits but the first two", () -> x.machine(8, -4, 0, true, true));
        Due.argument("kept 1", () -> x.machine(8, 1, 0, true, true));
        Due.argument("kept 2", () -> x.machine(8, 2, 0, true, true));
        Due.argument("kept 32 of 8", () -> x.machine(8, 32, 0, true, true));
        Due.argument("kept 4 of 5", () -> x.machine(5, 4, 0, true, true));
        Due.argument("kept 8 of 6", () -> x.machine(6, 8, 0, true, true));
        Due.argument("kept 256 of 11", () -> x.machine(11, 256, 0, true, true));
        Due.argument("kept int's greatest", () -> x.machine(11, Integer.MAX_VALUE, 0, true, true));
        Due.argument("small -1", () -> x.machine(8, 0, -1, true, true));
        Due.argument("small 100", () -> x.machine(8, 0, 100, true, true));
        Due.is("machine(8, ..) behind those that were refused", x.machine(8, 0, 0, true, true), 7);
    }

    private static void latencyAnswersAndTakes() {
        SpillslotWorks x = new SpillslotWorks();
        x.node(0, 5, 0);
        Due.is("cost of an LI", x.cost(0), 1);
        Due.is("latency(0, 9)", x.latency(0, 9), 1);
        Due.is("latency(0, 4)", x.latency(0, 4), 9);
        Due.is("cost of an LI then", x.cost(0), 4);
        Due.is("latency(7, 1)", x.latency(7, 1), 5);
        Due.is("latency(7, 2)", x.latency(7, 2), 1);
    }

    private static void latencyRefuses() {
        SpillslotWorks x = new SpillslotWorks();
        Due.index("latency(-1, 1)", () -> x.latency(-1, 1));
        Due.index("latency(8, 1)", () -> x.latency(8, 1));
        Due.index("latency(8, 0): the kind first", () -> x.latency(8, 0));
        Due.index("latency(-1, 10): the kind first", () -> x.latency(-1, 10));
        Due.argument("latency(3, 0)", () -> x.latency(3, 0));
        Due.argument("latency(3, 10)", () -> x.latency(3, 10));
        Due.argument("latency(3, -5)", () -> x.latency(3, -5));
        Due.is("latency(3, 3) behind those that were refused", x.latency(3, 3), 3);
    }
}
