/** Promises 14 to 18: code, begins, answer, many, meanStall. */
public final class CodeTest {
    public static void main(String[] args) {
        plainCode();
        remadeAndCalls();
        slotsAndRun();
        callsInTheWay();
        callResults();
        twoExchanges();
        twoBehindMoves();
        twoInScratch();
        spilledReads();
        moves();
        runs();
        stallsOfKinds();
        manyOfAll();
        refused();
        Due.end();
    }

    private static void begins(String name, SpillslotWorks x, int... want) {
        for (int k = 0; k < want.length; k++) {
            Due.is(name + ": begins(" + k + ")", x.begins(k), want[k]);
        }
    }

    private static void plainCode() {
        SpillslotWorks x = new SpillslotWorks();
        x.out(16);
        int fused = Trees.add(x, Trees.mul(x, Trees.use(x, 1), Trees.use(x, 2)), Trees.use(x, 3));
        x.statement(0, 4, Trees.sub(x, fused, Trees.num(x, 4)));
        Trees.codeIs("v4 = v1 * v2 + v3 - 4", x, new int[][] {
            {0, 0, 0, 0, 0, 0}, {0, 1, 0, 0, 0, 1}, {0, 2, 0, 0, 0, 2},
            {6, 0, 0, 1, 2, 3}, {5, 0, 0, -4, 0, 4}});
        begins("FUSE takes 3 CYCLES", x, 0, 1, 2, 3, 6);
        Due.is("answer(4)", x.answer(4), -4);
        Due.is("cycles", x.many(13), 7);
        Due.is("stalls", x.many(14), 2);
        Due.isTrue("meanStall()", x.meanStall() == 2.0 / 5.0);
        x.latency(4, 1);
        Due.is("FUSE at once", x.many(13), 5);
        Due.isTrue("meanStall() without STALLS", x.meanStall() == 0.0);
    }

    private static void remadeAndCalls() {
        SpillslotWorks x = new SpillslotWorks();
        x.machine(6, 4, 15, true, false);
        x.statement(0, 1, Trees.call(x, Trees.use(x, 2), Trees.use(x, 3)));
        x.statement(0, 0, Trees.add(x, Trees.use(x, 2), Trees.use(x, 3)));
        Trees.codeIs("v2 is REMADE each time", x, new int[][] {
            {0, 2, 0, 0, 0, 1}, {0, 0, 0, 0, 0, 2}, {1, 1, 2, 0, 0, 2}, {9, 0, 0, 0, 0, 2},
            {0, 3, 0, 0, 0, 3}, {2, 0, 3, 2, 0, 3}});
        begins("CALL takes 5, but 0 is not read", x, 0, 1, 2, 3, 4, 5);
        Due.is("cycles", x.many(13), 6);
        Due.is("moves", x.many(10), 1);
        Due.is("loads and stores", x.many(11), 0);
    }

    private static void slotsAndRun() {
        SpillslotWorks x = LivesTest.inSlots();
        Trees.codeIs("v2 has a SLOT", x, new int[][] {
            {0, 3, 0, 0, 0, 0}, {8, 3, 0, 0, 0, 0}, {0, 2, 0, 0, 0, 1},
            {7, 3, 0, 0, 0, 2}, {5, 3, 3, 7, 0, 2}, {8, 3, 0, 0, 0, 2}, {5, 2, 2, -2, 0, 3},
            {7, 0, 0, 0, 0, 4}, {1, 1, 2, 0, 0, 4}, {9, 0, 0, 0, 0, 4},
            {7, 3, 0, 0, 0, 5}, {2, 0, 3, 2, 0, 5}});
        begins("v2 has a SLOT", x, 0, 1, 2, 3, 5, 6, 7, 8, 9, 10, 11, 13);
        Due.is("answer(0)", x.answer(0), 5);
        Due.is("length", x.many(9), 12);
        Due.is("moves", x.many(10), 1);
        Due.is("loads and stores", x.many(11), 5);
        Due.is("steps", x.many(12), 12);
        Due.is("cycles", x.many(13), 14);
        Due.is("stalls", x.many(14), 2);
        Due.isTrue("meanStall()", x.meanStall() == 2.0 / 12.0);
        x.latency(6, 9);
        Due.is("a SLOT is ready at once", x.many(13), 14);
        x.latency(5, 3);
        Due.is("LOADS are not: ADDI, CALL and ADD wait for them", x.many(13), 17);
        x.out(4);
        Due.is("answer(2) from its SLOT", x.answer(2), 7);
        x.out(8);
        Due.is("answer(3)", x.answer(3), -2);
    }

    private static void callsInTheWay() {
        SpillslotWorks x = new SpillslotWorks();
        x.statement(0, 1, Trees.num(x, 20));
        x.statement(1, 2, Trees.num(x, 30));
        x.statement(2, 0, Trees.call(x, Trees.use(x, 2), Trees.use(x, 1)));
        Trees.codeIs("in 1 and 0", x, new int[][] {
            {0, 0, 20, 0, 0, 0}, {0, 1, 30, 0, 0, 1}, {1, 5, 0, 0, 0, 2}, {1, 0, 1, 0, 0, 2},
            {1, 1, 5, 0, 0, 2}, {9, 0, 0, 0, 0, 2}});
        Due.is("3 * 30 + 2 * 20 + 1", x.answer(0), 131);
        x.take(2);
        x.statement(2, 0, Trees.call(x, Trees.use(x, 1), Trees.use(x, 2)));
        Due.is("in 0 and 1: no MOVES", x.many(10), 0);
        Due.is("3 * 20 + 2 * 30 + 1", x.answer(0), 121);
        x.take(2);
        x.statement(2, 0, Trees.call(x, Trees.use(x, 1), Trees.use(x, 1)));
        Trees.codeIs("in 0 both", x, new int[][] {
            {0, 0, 20, 0, 0, 0}, {0, 1, 30, 0, 0, 1}, {1, 1, 0, 0, 0, 2}, {9, 0, 0, 0, 0, 2}});
        Due.is("3 * 20 + 2 * 20 + 1", x.answer(0), 101);
        SpillslotWorks y = new SpillslotWorks();
        y.statement(0, 5, Trees.mul(y, Trees.use(y, 2), Trees.use(y, 2)));
        y.statement(1, 0, Trees.call(y, Trees.use(y, 3), Trees.use(y, 1)));
        Trees.codeIs("the second one in 0", y, new int[][] {
            {0, 0, 0, 0, 0, 0}, {0, 1, 0, 0, 0, 1}, {0, 2, 0, 0, 0, 2}, {4, 1, 1, 1, 0, 3},
            {1, 1, 0, 0, 0, 4}, {1, 0, 2, 0, 0, 4}, {9, 0, 0, 0, 0, 4}});
        y.take(1);
        y.statement(1, 0, Trees.call(y, Trees.use(y, 1), Trees.use(y, 3)));
        Trees.codeIs("the first one in 0", y, new int[][] {
            {0, 0, 0, 0, 0, 0}, {0, 1, 0, 0, 0, 1}, {0, 2, 0, 0, 0, 2}, {4, 1, 1, 1, 0, 3},
            {1, 1, 2, 0, 0, 4}, {9, 0, 0, 0, 0, 4}});
    }

    private static void callResults() {
        SpillslotWorks x = new SpillslotWorks();
        x.out(5);
        x.statement(0, 0, Trees.call(x, Trees.use(x, 1), Trees.use(x, 1)));
        x.statement(0, 2, Trees.call(x, Trees.use(x, 3), Trees.use(x, 3)));
        // v3 crosses the first CALL, and v0 the second; v3 has 2, and v0 3.
        Trees.codeIs("a result that another CALL must leave", x, new int[][] {
            {0, 0, 0, 0, 0, 0}, {0, 2, 0, 0, 0, 1}, {1, 1, 0, 0, 0, 2}, {9, 0, 0, 0, 0, 2},
            {1, 3, 0, 0, 0, 2}, {1, 0, 2, 0, 0, 3}, {1, 1, 2, 0, 0, 3}, {9, 0, 0, 0, 0, 3}});
        begins("the MOVE waits for the CALL", x, 0, 1, 2, 3, 8, 9, 10, 11);
        Due.is("cycles", x.many(13), 16);
        x.machine(8, 0, 15, true, false);
        Trees.codeIs("none is kept", x, new int[][] {
            {0, 0, 0, 0, 0, 0}, {1, 1, 0, 0, 0, 2}, {9, 0, 0, 0, 0, 2},
            {8, 0, 0, 0, 0, 2}, {0, 0, 0, 0, 0, 3}, {0, 1, 0, 0, 0, 3}, {9, 0, 0, 0, 0, 3}});
        begins("the STORE waits for the CALL", x, 0, 1, 2, 7, 8, 9, 10);
        Due.is("answer(0) from its SLOT", x.answer(0), 1);
        Due.is("answer(2)", x.answer(2), 1);
    }

    private static SpillslotWorks two(int out) {
        SpillslotWorks x = new SpillslotWorks();
        x.machine(8, 28, 15, true, true);
        x.out(out);
        return x;
    }

    private static void twoExchanges() {
        SpillslotWorks x = two(3);
        x.statement(0, 0, Trees.add(x, Trees.use(x, 1), Trees.use(x, 0)));
        x.statement(1, 0, Trees.mul(x, Trees.use(x, 1), Trees.use(x, 0)));
        x.statement(2, 0, Trees.add(x, Trees.use(x, 0), Trees.use(x, 1)));
        x.statement(3, 1, Trees.sub(x, Trees.use(x, 1), Trees.use(x, 0)));
        Trees.codeIs("ADD and MUL are exchanged", x, new int[][] {
            {0, 0, 0, 0, 0, 0}, {0, 1, 0, 0, 0, 1}, {2, 0, 0, 1, 0, 2}, {4, 0, 0, 1, 0, 3},
            {2, 0, 0, 1, 0, 4}, {3, 1, 1, 0, 0, 5}});
        x.machine(8, 28, 15, true, false);
        Due.is("as they were, without TWO: first", x.code(2, 2), 1);
        Due.is("as they were, without TWO: second", x.code(2, 3), 0);
    }

    private static void twoBehindMoves() {
        SpillslotWorks x = two(15);
        x.statement(0, 3, Trees.sub(x, Trees.use(x, 0), Trees.use(x, 1)));
        x.statement(1, 2, Trees.add(x, Trees.use(x, 1), Trees.num(x, 6)));
        x.statement(2, 2, Trees.add(x, Trees.mul(x, Trees.use(x, 0), Trees.use(x, 1)),
                Trees.use(x, 3)));
        Trees.codeIs("d has neither", x, new int[][] {
            {0, 0, 0, 0, 0, 0}, {0, 1, 0, 0, 0, 1}, {1, 2, 0, 0, 0, 2}, {3, 2, 2, 1, 0, 2},
            {1, 3, 1, 0, 0, 3}, {5, 3, 3, 6, 0, 3}, {1, 3, 0, 0, 0, 4}, {6, 3, 3, 1, 2, 4}});
        Due.is("moves", x.many(10), 3);
        Due.is("moves without TWO", x.with(8, 28, false, 10), 0);
    }

    private static void twoInScratch() {
        SpillslotWorks x = two(7);
        x.statement(0, 0, Trees.num(x, 5));
        x.statement(0, 1, Trees.num(x, 11));
        x.statement(0, 2, Trees.num(x, 3));
        x.statement(1, 0, Trees.sub(x, Trees.use(x, 1), Trees.use(x, 0)));
        x.statement(2, 0, Trees.add(x, Trees.mul(x, Trees.use(x, 1), Trees.use(x, 2)),
                Trees.use(x, 0)));
        x.statement(3, 0, Trees.add(x, Trees.mul(x, Trees.use(x, 1), Trees.use(x, 0)),
                Trees.use(x, 2)));
        Trees.codeIs("d has the second or the third one", x, new int[][] {
            {0, 0, 5, 0, 0, 0}, {0, 1, 11, 0, 0, 1}, {0, 2, 3, 0, 0, 2},
            {1, 5, 1, 0, 0, 3}, {3, 5, 5, 0, 0, 3}, {1, 0, 5, 0, 0, 3},
            {1, 5, 1, 0, 0, 4}, {6, 5, 5, 2, 0, 4}, {1, 0, 5, 0, 0, 4},
            {1, 5, 1, 0, 0, 5}, {6, 5, 5, 0, 2, 5}, {1, 0, 5, 0, 0, 5}});
        Due.is("answer(0)", x.answer(0), (11 * 3 + 6) * 11 + 3);
    }

    private static void spilledReads() {
        SpillslotWorks x = new SpillslotWorks();
        x.machine(5, 0, 0, true, false);
        x.out(192);
        // v6 and v7 weigh most, and keep the two REGISTERS; v1 and v2 are changed once.
        x.statement(0, 1, Trees.sub(x, Trees.use(x, 6), Trees.use(x, 7)));
        x.statement(0, 2, Trees.mul(x, Trees.use(x, 6), Trees.use(x, 7)));
        x.statement(1, 3, Trees.add(x, Trees.mul(x, Trees.use(x, 1), Trees.use(x, 6)),
                Trees.use(x, 2)));
        x.statement(2, 4, Trees.mul(x, Trees.use(x, 3), Trees.use(x, 3)));
        x.statement(3, 7, Trees.mul(x, Trees.use(x, 6), Trees.use(x, 7)));
        x.times(3, 9);
        // The MUL is higher than the SUB: POINTS 2 MUL v2, 3 SUB v1, 4 FUSE v3, 5 MUL v4.
        Trees.codeIs("S, S + 1, S + 2 by what is read, spilled or not", x, new int[][] {
            {0, 0, 0, 0, 0, 0}, {0, 1, 0, 0, 0, 1},
            {4, 2, 0, 1, 0, 2}, {8, 2, 0, 0, 0, 2},
            {3, 2, 0, 1, 0, 3}, {8, 2, 1, 0, 0, 3},
            {7, 2, 1, 0, 0, 4}, {7, 4, 0, 0, 0, 4}, {6, 2, 2, 0, 4, 4}, {8, 2, 2, 0, 0, 4},
            {7, 2, 2, 0, 0, 5}, {7, 3, 2, 0, 0, 5}, {4, 2, 2, 3, 0, 5}, {8, 2, 0, 0, 0, 5},
            {4, 1, 0, 1, 0, 6}});
        Due.is("steps", x.many(12), 14 + 9);
        x.machine(5, 0, 0, true, true);
        Due.is("with TWO: the MUL in S is behind a MOVE", x.code(2, 0), 1);
        Due.is("with TWO: its d", x.code(2, 1), 2);
        Due.is("with TWO: its x", x.code(2, 2), 0);
        Due.is("with TWO: then the MUL", x.code(3, 2), 2);
    }

    private static void moves() {
        SpillslotWorks x = new SpillslotWorks();
        x.out(6);
        x.statement(0, 1, Trees.use(x, 1));
        x.statement(1, 2, Trees.use(x, 1));
        Trees.codeIs("a MOVE to itself is left out", x, new int[][] {
            {0, 0, 0, 0, 0, 0}, {1, 1, 0, 0, 0, 2}});
        Due.is("POINTS", x.many(3), 3);
        Due.index("begins(2)", () -> x.begins(2));
        x.out(0);
        Due.is("code without OUT", x.many(9), 1);
    }

    private static void runs() {
        SpillslotWorks x = new SpillslotWorks();
        x.statement(0, 1, Trees.num(x, 7));
        x.statement(1, 0, Trees.add(x, Trees.use(x, 0), Trees.use(x, 1)));
        x.statement(2, 0, Trees.mul(x, Trees.use(x, 0), Trees.use(x, 0)));
        x.statement(3, 2, Trees.num(x, 2));
        x.times(1, 5);
        x.times(2, 2);
        // LI, LI; 5 ADDS; 2 MULS, of which the second waits two CYCLES; LI.
        Due.is("answer(0)", x.answer(0), 35 * 35 * 35 * 35);
        Due.is("steps", x.many(12), 10);
        Due.is("stalls", x.many(14), 2);
        Due.is("cycles", x.many(13), 12);
        begins("as it is done the first time", x, 0, 1, 2, 7, 11);
        x.latency(0, 6);
        // The ADD waits for v1 until 7; the last LI takes 6 CYCLES.
        begins("with slow LIS", x, 0, 1, 7, 12, 16);
        Due.is("stalls with slow LIS", x.many(14), 7);
        Due.is("cycles with slow LIS", x.many(13), 22);
    }

    private static void stallsOfKinds() {
        SpillslotWorks x = new SpillslotWorks();
        x.out(2);
        x.statement(0, 1, Trees.num(x, 100));
        x.statement(1, 2, Trees.add(x, Trees.use(x, 1), Trees.num(x, 1)));
        x.statement(2, 3, Trees.sub(x, Trees.use(x, 2), Trees.use(x, 1)));
        x.statement(3, 1, Trees.use(x, 3));
        x.latency(2, 4);
        // ADDI and SUB take 4 each, that of ADD.
        begins("LI, ADDI, SUB, MOVE", x, 0, 1, 5, 9);
        x.latency(1, 9);
        Due.is("the last one's LATENCY", x.many(13), 18);
        x.latency(3, 9);
        x.latency(5, 9);
        x.latency(6, 9);
        x.latency(7, 9);
        Due.is("those of other kinds have no say", x.many(13), 18);
    }

    private static void manyOfAll() {
        SpillslotWorks x = LivesTest.inSlots();
        Trees.num(x, 3);
        int[] want = {13, 1, 4, 6, 4, 1, 0, 1, 2, 12, 1, 5, 12, 14, 2, 3};
        for (int what = 0; what < 16; what++) {
            Due.is("many(" + what + ")", x.many(what), want[what]);
        }
    }

    private static void refused() {
        SpillslotWorks x = new SpillslotWorks();
        Due.is("code(0, 0)", x.code(0, 0), 0);
        Due.index("code(-1, 0)", () -> x.code(-1, 0));
        Due.index("code(1, 0)", () -> x.code(1, 0));
        Due.index("code(1, 6): the index first", () -> x.code(1, 6));
        Due.argument("code(0, -1)", () -> x.code(0, -1));
        Due.argument("code(0, 6)", () -> x.code(0, 6));
        Due.index("begins(-1)", () -> x.begins(-1));
        Due.index("begins(1)", () -> x.begins(1));
        Due.index("answer(-1)", () -> x.answer(-1));
        Due.index("answer(8)", () -> x.answer(8));
        Due.index("answer(32)", () -> x.answer(32));
        Due.index("answer(1): not in OUT", () -> x.answer(1));
        Due.is("answer(0)", x.answer(0), 0);
        Due.argument("many(-1)", () -> x.many(-1));
        Due.argument("many(16)", () -> x.many(16));
        x.out(0);
        Due.index("answer(0): not in OUT now", () -> x.answer(0));
        Due.index("code(0, 0) of no CODE", () -> x.code(0, 0));
        Due.index("begins(0) of no CODE", () -> x.begins(0));
        Due.isTrue("meanStall() of no CODE", x.meanStall() == 0.0);
    }
}
