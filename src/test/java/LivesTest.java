/** Promises 11 and 12: ofValue, mapAt. */
public final class LivesTest {
    public static void main(String[] args) {
        livesAndWeights();
        livesInRounds();
        livesNotCarried();
        registersGiven();
        registersLiked();
        spilledByWeight();
        spilledOfSeveral();
        slotsGiven();
        slotsShared();
        crossingRemade();
        crossingInSlots();
        crossingEdges();
        refused();
        Due.end();
    }

    private static void value(String name, SpillslotWorks x, int value, int... want) {
        for (int what = 0; what < want.length; what++) {
            Due.is(name + ": ofValue(" + value + ", " + what + ")", x.ofValue(value, what),
                    want[what]);
        }
    }

    private static void livesAndWeights() {
        SpillslotWorks x = new SpillslotWorks();
        x.out(4);
        x.statement(0, 1, Trees.num(x, 7));
        x.statement(0, 2, Trees.add(x, Trees.use(x, 1), Trees.use(x, 1)));
        // 1 is written once, and read twice by one instruction: 300 / 2 POINTS.
        value("v1", x, 1, 0, 1, 150, 0, -1, 0, 0, 3);
        value("v2, to END", x, 2, 1, 2, 50, 0, -1, 0, 0, 1);
        x.out(6);
        value("v1 in OUT", x, 1, 0, 2, 100, 0, -1, 0, 0, 3);
        value("v2 beside it", x, 2, 1, 2, 50, 1, -1, 0, 0, 1);
        x.times(0, 9);
        value("v1, nine times", x, 1, 0, 2, 900, 0, -1, 0, 0, 3);
        x.out(0);
        value("v2, never read", x, 2, 1, 1, 900, 0, -1, 0, 0, 1);
    }

    private static void livesInRounds() {
        SpillslotWorks x = new SpillslotWorks();
        x.statement(0, 1, Trees.num(x, 3));
        x.statement(1, 0, Trees.add(x, Trees.use(x, 0), Trees.use(x, 1)));
        x.statement(1, 2, Trees.num(x, 9));
        x.times(1, 4);
        // POINTS: 0 LI v0 in the ENTRY, 1 LI v1, then 2 ADD v0 and 3 LI v2 four times.
        value("v0, in OUT", x, 0, 0, 4, 180, 0, -1, 0, 0, 3);
        value("v1, to behind BLOCK 1", x, 1, 1, 4, 125, 1, -1, 0, 0, 2);
        value("v2, in BLOCK 1 alone", x, 2, 3, 3, 400, 2, -1, 0, 0, 1);
        Due.is("most at once", x.many(15), 3);
        x.times(1, 1);
        value("v1, as BLOCK 1 is done once", x, 1, 1, 2, 100, 1, -1, 0, 0, 2);
        value("v2, as BLOCK 1 is done once", x, 2, 3, 3, 100, 1, -1, 0, 0, 1);
        Due.is("most at once then", x.many(15), 2);
    }

    private static void livesNotCarried() {
        SpillslotWorks x = new SpillslotWorks();
        x.out(0);
        x.statement(0, 2, Trees.use(x, 1));
        x.statement(1, 3, Trees.num(x, 4));
        x.statement(1, 4, Trees.use(x, 3));
        x.statement(1, 5, Trees.num(x, 8));
        x.times(0, 2);
        x.times(1, 2);
        value("v1, to behind BLOCK 0 and no more", x, 1, 0, 2, 100, 0);
        value("v2, begun in its BLOCK", x, 2, 1, 1, 200);
        value("v3, begun and read in BLOCK 1", x, 3, 2, 3, 200);
        x.out(32);
        value("v5, in OUT", x, 5, 4, 5, 100);
    }

    private static void registersGiven() {
        SpillslotWorks x = new SpillslotWorks();
        x.out(255);
        // Eight LIS in the ENTRY, and five REGISTERS: the longest lives have the least WEIGHTS.
        Due.is("spilled", x.many(5), 3);
        int[] registers = {-1, -1, -1, 3, 4, 0, 1, 2};
        for (int v = 0; v < 8; v++) {
            Due.is("register of " + v, x.ofValue(v, 3), registers[v]);
            Due.is("remade " + v, x.ofValue(v, 5), v < 3 ? 1 : 0);
        }
        x.machine(11, 0, 15, true, false);
        for (int v = 0; v < 8; v++) {
            Due.is("register of " + v + " of eleven", x.ofValue(v, 3), v);
        }
    }

    private static void registersLiked() {
        SpillslotWorks x = new SpillslotWorks();
        x.out(24);
        x.machine(8, 28, 15, true, true);
        x.statement(0, 0, Trees.mul(x, Trees.use(x, 1), Trees.use(x, 2)));
        x.statement(1, 3, Trees.use(x, 2));
        x.statement(1, 4, Trees.sub(x, Trees.use(x, 3), Trees.use(x, 1)));
        // POINTS: 0 v1, 1 v2, 2 MUL v0, 3 MOVE v3 from v2, 4 SUB v4 of v3.
        value("v1", x, 1, 0, 4, 60, 0);
        value("v2 ends as v3 begins", x, 2, 1, 3, 100, 1);
        value("v0", x, 0, 2, 2, 100, 2);
        value("MOVE: that of v2", x, 3, 3, 5, 66, 1);
        value("SUB: v3 is in OUT, and 0 is free as v1 ends", x, 4, 4, 5, 50, 0);
        x.out(16);
        value("SUB with TWO: that of v3", x, 4, 4, 5, 50, 1);
        x.machine(8, 28, 15, true, false);
        value("SUB without TWO: the smallest", x, 4, 4, 5, 50, 0);
        value("MOVE always: that of v2", x, 3, 3, 4, 100, 1);
    }

    private static void spilledByWeight() {
        SpillslotWorks x = new SpillslotWorks();
        x.out(7);
        x.machine(5, 0, 15, true, false);
        x.statement(0, 0, Trees.num(x, 1));
        x.statement(0, 1, Trees.num(x, 2));
        x.statement(0, 2, Trees.num(x, 3));
        value("v0, the least WEIGHT", x, 0, 0, 3, 25, -1, -1, 1, 0, 1);
        value("v1", x, 1, 1, 3, 33, 1, -1, 0, 0, 1);
        value("v2 has what v0 had", x, 2, 2, 3, 50, 0, -1, 0, 0, 1);
        Due.is("spilled", x.many(5), 1);
        Due.is("remade", x.many(6), 1);
        Due.is("slots", x.many(7), 0);
        Due.is("answer(0): the number", x.answer(0), 1);
        Due.is("answer(1)", x.answer(1), 2);
        Due.is("answer(2)", x.answer(2), 3);
    }

    private static void spilledOfSeveral() {
        SpillslotWorks x = new SpillslotWorks();
        x.out(0);
        x.machine(5, 0, 15, true, false);
        // POINTS 0 to 2 are v1, v2, v3 in the ENTRY; each is read once, three POINTS behind.
        x.statement(0, 4, Trees.use(x, 1));
        x.statement(1, 4, Trees.use(x, 2));
        x.statement(2, 4, Trees.use(x, 3));
        value("v1", x, 1, 0, 3, 50, 0);
        value("v2", x, 2, 1, 4, 50, 1);
        value("v3, with the greatest number of those", x, 3, 2, 5, 50, -1, -1, 1);
        value("v4", x, 4, 3, 5, 100, 0);
    }

    private static void slotsGiven() {
        SpillslotWorks x = new SpillslotWorks();
        x.out(15);
        x.machine(5, 0, 0, false, false);
        for (int v = 0; v < 4; v++) {
            x.statement(v, v, Trees.mul(x, Trees.use(x, 6), Trees.use(x, 7)));
        }
        // POINTS: 0 v6, 1 v7, then v0 to v3, which all live to END at 6. 6 and 7 are read four
        // times, and stay; v0 ends behind none of the others.
        value("v6", x, 6, 0, 5, 83, 0);
        value("v7", x, 7, 1, 5, 100, 1);
        value("v0", x, 0, 2, 6, 20, -1, 0, 0, 0, 1);
        value("v1", x, 1, 3, 6, 25, -1, 1, 0, 0, 1);
        value("v2", x, 2, 4, 6, 33, -1, 2, 0, 0, 1);
        value("v3, as v6 and v7 end", x, 3, 5, 6, 50, 0, -1, 0, 0, 1);
        Due.is("slots", x.many(7), 3);
        Due.is("frame", x.many(8), 4);
    }

    private static void slotsShared() {
        SpillslotWorks x = new SpillslotWorks();
        x.out(192);
        x.machine(5, 0, 0, false, false);
        x.statement(0, 0, Trees.mul(x, Trees.use(x, 6), Trees.use(x, 7)));
        x.statement(1, 1, Trees.mul(x, Trees.use(x, 0), Trees.use(x, 6)));
        x.statement(2, 2, Trees.mul(x, Trees.use(x, 1), Trees.use(x, 7)));
        x.statement(3, 7, Trees.mul(x, Trees.use(x, 6), Trees.use(x, 7)));
        x.times(3, 9);
        value("v6", x, 6, 0, 6, 171, 0);
        value("v7", x, 7, 1, 6, 350, 1);
        value("v0", x, 0, 2, 3, 100, -1, 0);
        value("v1 has the POINT 3 in common with v0", x, 1, 3, 4, 100, -1, 1);
        value("v2 has the POINT 4 in common with v1 alone", x, 2, 4, 4, 100, -1, 0);
        Due.is("slots", x.many(7), 2);
        Due.is("spilled", x.many(5), 3);
        Due.is("frame", x.many(8), 2);
    }

    private static void crossingRemade() {
        SpillslotWorks x = new SpillslotWorks();
        x.machine(6, 4, 15, true, false);
        x.statement(0, 1, Trees.call(x, Trees.use(x, 2), Trees.use(x, 3)));
        x.statement(0, 0, Trees.add(x, Trees.use(x, 2), Trees.use(x, 3)));
        // POINTS: 0 v2, 1 v3, 2 CALL v1, 3 ADD v0.
        value("v2", x, 2, 0, 3, 75, -1, -1, 1, 1, 3);
        value("v3", x, 3, 1, 3, 100, 2, -1, 0, 1, 3);
        value("v1, by the CALL itself", x, 1, 2, 2, 100, 0, -1, 0, 0, 1);
        Due.is("mapAt(0, 0)", x.mapAt(0, 0), 2);
        Due.is("mapAt(0, 1)", x.mapAt(0, 1), 4);
        Due.is("mapAt(0, 2)", x.mapAt(0, 2), 0);
        Due.is("mapAt(0, 3)", x.mapAt(0, 3), 1);
        Due.is("frame: one kept REGISTER, made even", x.many(8), 2);
        x.machine(8, 28, 15, true, false);
        Due.is("mapAt(0, 1) with three kept", x.mapAt(0, 1), 12);
        Due.is("mapAt(0, 3) with three kept", x.mapAt(0, 3), 0);
        Due.is("frame with two in use", x.many(8), 2);
        x.machine(8, 0, 15, true, false);
        Due.is("mapAt(0, 1) with none kept", x.mapAt(0, 1), 0);
        Due.is("mapAt(0, 3) with none kept", x.mapAt(0, 3), 2);
        Due.is("frame with none", x.many(8), 0);
    }

    /** v2 and v3 are changed ahead of the CALL, and so have no number to be made from. */
    static SpillslotWorks inSlots() {
        SpillslotWorks x = new SpillslotWorks();
        x.machine(6, 4, 15, true, false);
        x.statement(0, 2, Trees.add(x, Trees.use(x, 2), Trees.num(x, 7)));
        x.statement(0, 3, Trees.sub(x, Trees.use(x, 3), Trees.num(x, 2)));
        x.statement(0, 1, Trees.call(x, Trees.use(x, 2), Trees.use(x, 3)));
        x.statement(0, 0, Trees.add(x, Trees.use(x, 2), Trees.use(x, 3)));
        return x;
    }

    private static void crossingInSlots() {
        SpillslotWorks x = inSlots();
        value("v2", x, 2, 0, 5, 83, -1, 0, 0, 1, 5);
        value("v3", x, 3, 1, 5, 100, 2, -1, 0, 1, 5);
        Due.is("mapAt(0, 0)", x.mapAt(0, 0), 4);
        Due.is("mapAt(0, 1)", x.mapAt(0, 1), 4);
        Due.is("mapAt(0, 2)", x.mapAt(0, 2), 1);
        Due.is("mapAt(0, 3)", x.mapAt(0, 3), 0);
        x.machine(6, 0, 15, true, false);
        Due.is("mapAt(0, 2) with none kept", x.mapAt(0, 2), 3);
    }

    private static void crossingEdges() {
        SpillslotWorks x = new SpillslotWorks();
        x.statement(0, 0, Trees.call(x, Trees.use(x, 1), Trees.use(x, 1)));
        x.statement(0, 2, Trees.call(x, Trees.use(x, 0), Trees.use(x, 3)));
        // POINTS: 0 v1, 1 v3, 2 CALL v0, 3 CALL v2; END is 4.
        value("v1 ends at the first CALL", x, 1, 0, 2, 100, 0, -1, 0, 0, 3);
        value("v3 crosses it, and ends at the second", x, 3, 1, 3, 66, 2, -1, 0, 1, 2);
        value("v0 begins at the first, and crosses the second", x, 0, 2, 4, 66, 3, -1, 0, 1, 2);
        Due.is("mapAt(0, 1)", x.mapAt(0, 1), 4);
        Due.is("mapAt(1, 0)", x.mapAt(1, 0), 3);
        Due.is("mapAt(1, 1)", x.mapAt(1, 1), 8);
        x.out(4);
        value("v2 begins at the last CALL, to END", x, 2, 3, 4, 50, 0, -1, 0, 0, 1);
        x.times(0, 2);
        value("v1 is read in each round", x, 1, 0, 4, 100, 2, -1, 0, 2, 3);
    }

    private static void refused() {
        SpillslotWorks x = new SpillslotWorks();
        Due.is("ofValue(0, 0)", x.ofValue(0, 0), 0);
        Due.index("ofValue(-1, 0)", () -> x.ofValue(-1, 0));
        Due.index("ofValue(1, 0): in no instruction", () -> x.ofValue(1, 0));
        Due.index("ofValue(8, 0)", () -> x.ofValue(8, 0));
        Due.index("ofValue(int's greatest, 0)", () -> x.ofValue(Integer.MAX_VALUE, 0));
        Due.index("ofValue(1, 8): the index first", () -> x.ofValue(1, 8));
        Due.argument("ofValue(0, -1)", () -> x.ofValue(0, -1));
        Due.argument("ofValue(0, 8)", () -> x.ofValue(0, 8));
        Due.index("mapAt(0, 0) without a CALL", () -> x.mapAt(0, 0));
        x.statement(0, 0, Trees.call(x, Trees.use(x, 1), Trees.use(x, 1)));
        Due.is("mapAt(0, 0)", x.mapAt(0, 0), 1);
        Due.index("mapAt(-1, 0)", () -> x.mapAt(-1, 0));
        Due.index("mapAt(1, 0)", () -> x.mapAt(1, 0));
        Due.index("mapAt(1, 4): the index first", () -> x.mapAt(1, 4));
        Due.argument("mapAt(0, -1)", () -> x.mapAt(0, -1));
        Due.argument("mapAt(0, 4)", () -> x.mapAt(0, 4));
    }
}
