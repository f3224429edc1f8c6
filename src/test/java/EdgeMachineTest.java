/** The bounds of Terms 1, and of promises 1 to 3, sentence by sentence. */
public final class EdgeMachineTest {
    public static void main(String[] args) {
        newObject();
        registersBounds();
        scratchIsGivenToNone();
        keptBounds();
        keptAtFirst();
        keptMayBeEmpty();
        smallAtFirst();
        smallLeast();
        smallMost();
        fusedAndTwoAtFirst();
        latenciesAtFirst();
        latencyBounds();
        latencyOfEachKind();
        machineTellsAnew();
        machineAnswers();
        Due.end();
    }

    private static void newObject() {
        Due.says("Creates a back end without STATEMENTS.");
        SpillslotWorks x = new SpillslotWorks();
        Told.many("new", x, 0, 0);
        Told.many("new", x, 1, 0);
        Told.many("new", x, 2, 0);
        for (int b = 0; b < 4; b++) {
            int block = b;
            Due.state("new: take(" + b + ")", () -> x.take(block));
        }
        Told.lines("new: OUT has 0 alone", x, "e: 0 = LI n0 h0");
    }

    private static void registersBounds() {
        Due.says("REGISTERS, 5 to 11 (8 at first)");
        for (int registers = 5; registers <= 11; registers++) {
            SpillslotWorks x = new SpillslotWorks();
            Due.is("new: machine(" + registers + ", ..)",
                    x.machine(registers, 0, 15, true, false), 8);
            Due.is("then machine(8, ..)", x.machine(8, 0, 15, true, false), registers);
        }
        Due.says("if registers is not 5 to 11");
        for (int registers : new int[] {Integer.MIN_VALUE, -8, -1, 0, 3, 4, 12, 13, 35, 36, 37,
            Integer.MAX_VALUE}) {
            SpillslotWorks x = new SpillslotWorks();
            Due.argument("machine(" + registers + ", ..)",
                    () -> x.machine(registers, 0, 15, true, false));
            Due.is("machine(8, ..) behind it", x.machine(8, 0, 15, true, false), 8);
        }
    }

    private static void scratchIsGivenToNone() {
        Due.says("the last three, S, S + 1, S + 2, are SCRATCH");
        // Nine LIVES at POINT 8: the VARIABLES, which are all in OUT, and 1 - 2.
        SpillslotWorks x = Told.program(255, "0: v0 = v0 - (v1 - v2)");
        for (int registers = 5; registers <= 11; registers++) {
            int s = registers - 3;
            x.machine(registers, 0, 15, true, false);
            int used = 0;
            for (int value = 0; value < 9; value++) {
                int register = x.ofValue(value, 3);
                used |= register < 0 ? 0 : 1 << register;
            }
            Due.is("the set of those that LIVES have, of " + registers, used, (1 << s) - 1);
            Told.many("SPILLED, of " + registers, x, 5, 9 - s);
        }
    }

    private static void keptBounds() {
        Due.says("KEPT is a set of those from 2 to S - 1");
        for (int registers = 5; registers <= 11; registers++) {
            int s = registers - 3;
            SpillslotWorks x = new SpillslotWorks();
            Due.is("none of " + registers, x.machine(registers, 0, 15, true, false), 8);
            int all = (1 << s) - 4;
            Due.is("all of " + registers, x.machine(registers, all, 15, true, false), registers);
            for (int k = 0; k < 32; k++) {
                int r = registers;
                int kept = 1 << k;
                if (k >= 2 && k < s) {
                    Due.is("KEPT " + k + " of " + r, x.machine(r, kept, 15, true, false), r);
                } else {
                    Due.argument("KEPT " + k + " of " + r,
                            () -> x.machine(r, kept, 15, true, false));
                    Due.argument("KEPT " + k + " and all of " + r,
                            () -> x.machine(r, all | kept, 15, true, false));
                }
            }
        }
        Due.says("kept is below 0");
        SpillslotWorks x = new SpillslotWorks();
        for (int kept : new int[] {-1, -4, -2, Integer.MIN_VALUE, Integer.MIN_VALUE + 4}) {
            Due.argument("kept " + kept, () -> x.machine(11, kept, 15, true, false));
        }
    }

    private static SpillslotWorks fourCross() {
        // POINTS: 0 v2, 1 v3, 2 v4, 3 v5, 4 CALL v1, 5 ADD v0, 6 SUB v6.
        return Told.program(0, "0: v1 = c(v2, v3)", "1: v0 = v2 + v3", "1: v6 = v4 - v5");
    }

    private static void keptAtFirst() {
        Due.says("(of 2, 3 and 4 at first)");
        SpillslotWorks x = fourCross();
        Due.is("mapAt(0, 0)", x.mapAt(0, 0), 4);
        Due.is("REGISTERS of those that CROSS", x.mapAt(0, 1), 4 + 8 + 16);
        Due.is("the fourth is REMADE", x.mapAt(0, 3), 1);
        Due.is("v4 it is, with the least WEIGHT", x.ofValue(4, 3), -1);
    }

    private static void keptMayBeEmpty() {
        Due.says("one that CROSSES a CALL can only have a KEPT one");
        SpillslotWorks x = fourCross();
        x.machine(11, 0, 15, true, false);
        Due.is("REGISTERS of those that CROSS, none KEPT", x.mapAt(0, 1), 0);
        Due.is("all four are REMADE", x.mapAt(0, 3), 4);
        Told.many("no FRAME", x, 8, 0);
    }

    private static void smallAtFirst() {
        Due.says("SMALL is 0 to 99 (15)");
        SpillslotWorks x = Told.program(0, "0: v1 = v2 + 15", "0: v3 = v2 - 15",
                "0: v4 = -15 + v2", "1: v1 = v2 + 16", "2: v3 = v2 - -16");
        Told.lines("15 and -15, then 16 and -16", x, "e: 2 = LI n0 h0",
                "0: 1 = ADDI 2 n15 h1", "0: 3 = ADDI 2 n-15 h1", "0: 4 = ADDI 2 n-15 h1",
                "1: 8 = LI n16 h2", "1: 1 = ADD 2 8 h1",
                "2: 9 = LI n-16 h2", "2: 3 = SUB 2 9 h1");
    }

    private static void smallLeast() {
        Due.says("SMALL is 0 to 99");
        SpillslotWorks x = Told.program(0, "0: v1 = v2 + 0", "1: v1 = v2 + 1", "2: v1 = -1 + v2");
        x.machine(8, 28, 0, true, false);
        Told.lines("SMALL 0", x, "e: 2 = LI n0 h0", "0: 1 = ADDI 2 n0 h1",
                "1: 8 = LI n1 h2", "1: 1 = ADD 2 8 h1", "2: 9 = LI n-1 h2", "2: 1 = ADD 9 2 h1");
        Due.says("small is not 0 to 99");
        for (int small : new int[] {Integer.MIN_VALUE, -99, -1}) {
            Due.argument("small " + small, () -> x.machine(8, 28, small, true, false));
        }
    }

    private static void smallMost() {
        Due.says("SMALL is 0 to 99");
        SpillslotWorks x = Told.program(0, "0: v1 = v2 + 99", "1: v1 = v2 - -99",
                "2: v1 = v2 + 100", "3: v1 = -100 + v2");
        x.machine(8, 28, 99, true, false);
        Told.lines("SMALL 99", x, "e: 2 = LI n0 h0", "0: 1 = ADDI 2 n99 h1",
                "1: 1 = ADDI 2 n99 h1", "2: 8 = LI n100 h2", "2: 1 = ADD 2 8 h1",
                "3: 9 = LI n-100 h2", "3: 1 = ADD 9 2 h1");
        Due.says("small is not 0 to 99");
        for (int small : new int[] {100, 101, 999, Integer.MAX_VALUE}) {
            Due.argument("small " + small, () -> x.machine(8, 28, small, true, false));
        }
    }

    private static void fusedAndTwoAtFirst() {
        Due.says("It is FUSED (1, at first), or not (0), and TWO (1), or not (0, at first)");
        SpillslotWorks x = Told.program(31, "0: v4 = v1 * v2 + v3", "1: v0 = v1 - v2");
        // POINTS 0 to 2 are v1, v2 and v3 in the ENTRY, which have 0, 1 and 2.
        Told.codeFrom(3, "new: FUSE, and no MOVES", x, "3 FUSE 3 0 1 2", "4 SUB 4 0 1");
        x.machine(8, 28, 15, false, true);
        Told.codeFrom(3, "no FUSE, and MOVES", x, "3 MOVE 3 0", "3 MUL 3 3 1", "4 ADD 3 3 2",
                "5 MOVE 4 0", "5 SUB 4 4 1");
    }

    private static void latenciesAtFirst() {
        Due.says("0 LI (1 at first), 1 MOVE (1), 2 ADD, SUB, ADDI (1), 3 MUL (3), 4 FUSE (3), "
                + "5 LOAD (2), 6 STORE (1), 7 CALL (5)");
        int[] first = {1, 1, 1, 3, 3, 2, 1, 5};
        for (int kind = 0; kind < 8; kind++) {
            SpillslotWorks x = new SpillslotWorks();
            Due.is("new: latency(" + kind + ", 4)", x.latency(kind, 4), first[kind]);
            for (int other = 0; other < 8; other++) {
                int due = other == kind ? 4 : first[other];
                Due.is("then latency(" + other + ", ..)", x.latency(other, due), due);
            }
        }
    }

    private static void latencyBounds() {
        Due.says("LATENCIES, 1 to 9, of the kinds");
        for (int kind = 0; kind < 8; kind++) {
            SpillslotWorks x = new SpillslotWorks();
            int k = kind;
            int before = x.latency(k, 1);
            Due.isTrue("it was 1 to 9", before >= 1 && before <= 9);
            Due.says("Throws `IllegalArgumentException` if cycles is not 1 to 9");
            for (int cycles : new int[] {Integer.MIN_VALUE, -1, 0, 10, 11, Integer.MAX_VALUE}) {
                Due.argument("latency(" + k + ", " + cycles + ")", () -> x.latency(k, cycles));
            }
            Due.says("Returns the one before.");
            Due.is("latency(" + k + ", 9)", x.latency(k, 9), 1);
            Due.is("latency(" + k + ", 1)", x.latency(k, 1), 9);
        }
        Due.says("Throws `IndexOutOfBoundsException` if there is no such kind");
        SpillslotWorks x = new SpillslotWorks();
        for (int kind : new int[] {Integer.MIN_VALUE, -1, 8, 9, Integer.MAX_VALUE}) {
            Due.index("latency(" + kind + ", 5)", () -> x.latency(kind, 5));
        }
    }

    private static void latencyOfEachKind() {
        Due.says("`cycles`: its LATENCY from now on");
        SpillslotWorks x = new SpillslotWorks();
        for (int kind = 0; kind < 8; kind++) {
            x.latency(kind, 2 + kind);
        }
        Due.is("LI", x.cost(Told.tree(x, "500")), 2);
        Due.is("a USE has none", x.cost(Told.tree(x, "v1")), 0);
        Due.is("ADD", x.cost(Told.tree(x, "v1 + v2")), 4);
        Due.is("SUB", x.cost(Told.tree(x, "v1 - v2")), 4);
        Due.is("ADDI", x.cost(Told.tree(x, "v1 + 3")), 4);
        Due.is("MUL", x.cost(Told.tree(x, "v1 * v2")), 5);
        Due.is("FUSE", x.cost(Told.tree(x, "v1 * v2 + v3")), 6);
        Due.is("CALL", x.cost(Told.tree(x, "c(v1, v2)")), 9);
        x.out(6);
        Told.statement(x, "0: v1 = v2");
        Told.many("LI, then MOVE, as the last one", x, 13, 2 + 3);
        // Both VALUES that stay in REGISTERS weigh more than v1, which has a SLOT.
        SpillslotWorks y = Told.program(194, "0: v1 = v6 * v7 + v6", "1: v1 = v7 * v6 + v7");
        y.machine(5, 0, 15, true, false);
        Told.code("STORE as the last one", y, "0 LI 0 0", "1 LI 1 0", "2 FUSE 2 0 1 0",
                "2 STORE 2 0", "3 FUSE 2 1 0 1", "3 STORE 2 0");
        Told.many("STORE in 9, with 1", y, 13, 9 + 1);
        y.latency(6, 8);
        Told.many("STORE in 9, with 8", y, 13, 9 + 8);
    }

    private static void machineTellsAnew() {
        Due.says("Tells the machine anew (LATENCIES stay).");
        SpillslotWorks x = new SpillslotWorks();
        for (int kind = 0; kind < 8; kind++) {
            x.latency(kind, 9 - kind);
        }
        x.machine(5, 0, 0, false, true);
        x.machine(11, 252, 99, true, false);
        for (int kind = 0; kind < 8; kind++) {
            Due.is("latency(" + kind + ", 1)", x.latency(kind, 1), 9 - kind);
        }
        SpillslotWorks y = Told.program(255, "0: v0 = v1 * v2 + v3", "0: v4 = c(v0, v5) - 30",
                "1: v6 = v7 - v4", "1: v7 = v0 + v6");
        long first = y.digest();
        y.machine(5, 0, 40, false, true);
        Due.isTrue("another machine, another digest", y.digest() != first);
        y.machine(8, 28, 15, true, false);
        Due.is("that of a new object told anew: digest()", y.digest(), first);
    }

    private static void machineAnswers() {
        Due.says("Returns how many REGISTERS it had.");
        SpillslotWorks x = new SpillslotWorks();
        int before = 8;
        for (int registers : new int[] {5, 11, 6, 6, 10, 7, 9, 8}) {
            Due.is("machine(" + registers + ", ..)", x.machine(registers, 0, 1, true, true),
                    before);
            before = registers;
        }
    }
}
