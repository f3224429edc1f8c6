/** Promises 10 and 13: chosen, cost. */
public final class ChoosingTest {
    public static void main(String[] args) {
        smallCovers();
        smallEdges();
        fusedCovers();
        fusedOrder();
        covers();
        entry();
        values();
        orderByHeight();
        orderByNeed();
        refused();
        Due.end();
    }

    private static void smallCovers() {
        SpillslotWorks x = new SpillslotWorks();
        x.out(0);
        int sum = Trees.add(x, Trees.use(x, 1), Trees.num(x, 15));
        x.statement(0, 2, sum);
        Due.is("cost of 1 + 15", x.cost(sum), 1);
        Due.is("cost of a use", x.cost(0), 0);
        Due.is("cost of a number", x.cost(1), 1);
        Trees.line("1 + 15", x, 1, 5, 2, 1, -1, -1, 15, 0, 1);
        x.take(0);
        x.statement(0, 3, Trees.add(x, Trees.num(x, -15), Trees.use(x, 4)));
        Trees.line("-15 + 4", x, 1, 5, 3, 4, -1, -1, -15, 0, 1);
        x.take(0);
        int less = Trees.sub(x, Trees.use(x, 1), Trees.num(x, 15));
        x.statement(0, 2, less);
        Due.is("cost of 1 - 15", x.cost(less), 1);
        Trees.line("1 - 15", x, 1, 5, 2, 1, -1, -1, -15, 0, 1);
        x.take(0);
        int product = Trees.mul(x, Trees.use(x, 1), Trees.num(x, 2));
        x.statement(0, 2, product);
        Due.is("cost of 1 * 2", x.cost(product), 4);
        Trees.line("1 * 2, the number", x, 1, 0, 8, -1, -1, -1, 2, 0, 4);
        Trees.line("1 * 2", x, 2, 4, 2, 1, 8, -1, 0, 0, 3);
    }

    private static void smallEdges() {
        SpillslotWorks x = new SpillslotWorks();
        x.out(0);
        int sum = Trees.add(x, Trees.use(x, 1), Trees.num(x, 16));
        x.statement(0, 2, sum);
        Due.is("cost of 1 + 16", x.cost(sum), 2);
        Trees.line("1 + 16", x, 2, 2, 2, 1, 8, -1, 0, 0, 1);
        x.take(0);
        x.statement(0, 2, Trees.sub(x, Trees.num(x, 3), Trees.use(x, 1)));
        Trees.line("3 - 1: its a is no small one", x, 2, 3, 2, 8, 1, -1, 0);
        x.take(0);
        x.statement(0, 2, Trees.add(x, Trees.num(x, 15), Trees.num(x, 14)));
        Trees.line("15 + 14: b, if both are", x, 0, 0, 8, -1, -1, -1, 15);
        Trees.line("15 + 14", x, 1, 5, 2, 8, -1, -1, 14);
        x.take(0);
        x.statement(0, 2, Trees.add(x, Trees.num(x, -14), Trees.num(x, -16)));
        Trees.line("-14 + -16: a, as b is not", x, 0, 0, 8, -1, -1, -1, -16);
        Trees.line("-14 + -16", x, 1, 5, 2, 8, -1, -1, -14);
        x.take(0);
        x.statement(0, 2, Trees.sub(x, Trees.use(x, 1), Trees.num(x, -16)));
        Trees.line("1 - -16", x, 2, 3, 2, 1, 8, -1, 0);
        x.machine(8, 28, 0, true, false);
        x.take(0);
        x.statement(0, 2, Trees.add(x, Trees.use(x, 1), Trees.num(x, 0)));
        Trees.line("1 + 0 with SMALL 0", x, 1, 5, 2, 1, -1, -1, 0);
    }

    private static void fusedCovers() {
        SpillslotWorks x = new SpillslotWorks();
        x.out(0);
        int product = Trees.mul(x, Trees.use(x, 1), Trees.use(x, 2));
        int sum = Trees.add(x, product, Trees.use(x, 3));
        x.statement(0, 4, sum);
        Due.is("cost of 1 * 2 + 3, fused", x.cost(sum), 3);
        Due.is("cost of 1 * 2", x.cost(product), 3);
        Trees.line("1 * 2 + 3", x, 3, 6, 4, 1, 2, 3, 0, 0, 3);
        x.latency(4, 4);
        Due.is("as dear: the plain one is told first", x.chosen(3, 0), 4);
        Due.is("as dear: cost", x.cost(sum), 4);
        x.latency(4, 9);
        Due.is("dearer", x.chosen(4, 0), 2);
        Due.is("dearer: cost", x.cost(sum), 4);
        x.latency(4, 1);
        x.machine(8, 28, 15, false, false);
        Due.is("a machine that is not fused", x.chosen(4, 0), 2);
        x.machine(8, 28, 15, true, false);
        Due.is("a machine that is", x.chosen(3, 0), 6);
        x.take(0);
        x.statement(0, 4, Trees.sub(x, Trees.mul(x, Trees.use(x, 1), Trees.use(x, 2)),
                Trees.use(x, 3)));
        Due.is("a SUB is never fused", x.chosen(4, 0), 3);
    }

    private static void fusedOrder() {
        SpillslotWorks x = new SpillslotWorks();
        x.out(0);
        int a = Trees.sub(x, Trees.use(x, 1), Trees.use(x, 2));
        int b = Trees.mul(x, Trees.use(x, 3), Trees.sub(x, Trees.use(x, 4), Trees.use(x, 5)));
        int sum = Trees.add(x, a, b);
        x.statement(0, 6, sum);
        Due.is("cost of (1 - 2) + 3 * (4 - 5)", x.cost(sum), 5);
        Trees.line("its a first", x, 5, 3, 8, 1, 2, -1, 0, 0, 4);
        Trees.line("then those of its b", x, 6, 3, 9, 4, 5, -1, 0, 0, 4);
        Trees.line("then FUSE", x, 7, 6, 6, 3, 9, 8, 0, 0, 3);
        x.take(0);
        int left = Trees.mul(x, Trees.use(x, 1), Trees.use(x, 2));
        int right = Trees.mul(x, Trees.use(x, 3), Trees.use(x, 4));
        int both = Trees.add(x, left, right);
        x.statement(0, 6, both);
        Due.is("cost of 1 * 2 + 3 * 4", x.cost(both), 6);
        Trees.line("a, if both are", x, 4, 4, 8, 3, 4, -1);
        Trees.line("the FUSE of them", x, 5, 6, 6, 1, 2, 8);
    }

    private static void covers() {
        SpillslotWorks x = new SpillslotWorks();
        x.out(0);
        int sum = Trees.add(x, Trees.mul(x, Trees.use(x, 1), Trees.use(x, 2)), Trees.num(x, 5));
        x.statement(0, 3, sum);
        Due.is("cost of 1 * 2 + 5", x.cost(sum), 4);
        Due.is("as dear: the small one is told ahead of the fused", x.chosen(3, 0), 5);
        x.latency(4, 2);
        Due.is("the fused one is cheaper: cost", x.cost(sum), 3);
        Trees.line("the number of the fused one", x, 2, 0, 8, -1, -1, -1, 5);
        Trees.line("the fused one", x, 3, 6, 3, 1, 2, 8, 0);
        int called = Trees.call(x, Trees.num(x, 1), Trees.num(x, 2));
        Due.is("cost of a CALL", x.cost(called), 7);
        Due.is("cost of a CALL with another LATENCY " + x.latency(7, 9), x.cost(called), 11);
    }

    private static void entry() {
        SpillslotWorks x = new SpillslotWorks();
        x.out(129);
        x.statement(1, 2, Trees.add(x, Trees.use(x, 3), Trees.use(x, 2)));
        x.statement(0, 3, Trees.num(x, 4));
        x.statement(2, 4, Trees.use(x, 6));
        x.statement(3, 6, Trees.num(x, 1));
        // 3 is written ahead of being read; 2 and 6 are not; 0 and 7 are asked for.
        int[] written = {0, 2, 6, 7};
        for (int p = 0; p < 4; p++) {
            Trees.line("ENTRY", x, p, 0, written[p], -1, -1, -1, 0, -1, 0);
        }
        Due.is("points", x.many(3), 8);
        Due.is("BLOCK of POINT 4", x.chosen(4, 6), 0);
        Due.is("BLOCK of POINT 5", x.chosen(5, 6), 1);
        Trees.line("a MOVE", x, 6, 1, 4, 6, -1, -1, 0, 2, 1);
        Due.is("BLOCK of POINT 7", x.chosen(7, 6), 3);
        Due.is("values", x.many(4), 6);
    }

    private static void values() {
        SpillslotWorks x = new SpillslotWorks();
        x.out(0);
        x.latency(2, 9);
        int left = Trees.sub(x, Trees.num(x, 100), Trees.use(x, 1));
        int right = Trees.call(x, Trees.use(x, 2), Trees.num(x, 3));
        x.statement(0, 0, Trees.mul(x, left, right));
        // As they come: 100 is 8, the SUB 9, 3 is 10, the CALL 11, and the MUL writes 0.
        Due.is("values", x.many(4), 7);
        Trees.line("100", x, 2, 0, 8, -1, -1, -1, 100);
        Trees.line("SUB", x, 3, 3, 9, 8, 1, -1, 0);
        Trees.line("3", x, 4, 0, 10, -1, -1, -1, 3);
        Trees.line("CALL", x, 5, 9, 11, 2, 10, -1, 0, 0, 8);
        Trees.line("MUL", x, 6, 4, 0, 9, 11, -1, 0, 0, 3);
    }

    private static void orderByHeight() {
        SpillslotWorks x = new SpillslotWorks();
        x.out(0);
        x.statement(0, 1, Trees.num(x, 5));
        x.statement(0, 2, Trees.mul(x, Trees.use(x, 3), Trees.use(x, 4)));
        x.statement(0, 5, Trees.add(x, Trees.use(x, 2), Trees.use(x, 3)));
        Trees.line("what takes longest first", x, 2, 4, 2, 3, 4, -1, 0, 0, 4);
        Trees.line("of several the first one", x, 3, 0, 1, -1, -1, -1, 5, 0, 1);
        Trees.line("then the other one", x, 4, 2, 5, 2, 3, -1, 0, 0, 1);
        x.latency(0, 4);
        Due.is("the LI is as high as the MUL, and was first", x.chosen(2, 0), 0);
        x.latency(3, 4);
        Due.is("the MUL is higher", x.chosen(2, 0), 4);
        x.times(0, 5);
        Due.is("TIMES have no say", x.chosen(2, 0), 4);
    }

    private static void orderByNeed() {
        SpillslotWorks x = new SpillslotWorks();
        x.out(0);
        x.statement(0, 1, Trees.add(x, Trees.use(x, 2), Trees.use(x, 3)));
        x.statement(0, 2, Trees.mul(x, Trees.use(x, 4), Trees.use(x, 5)));
        Trees.line("it reads what the other one writes", x, 4, 2, 1, 2, 3, -1, 0, 0, 4);
        Due.is("so that the other one is behind it", x.chosen(5, 7), 3);
        SpillslotWorks y = new SpillslotWorks();
        y.out(0);
        y.statement(0, 1, Trees.num(y, 5));
        y.statement(0, 1, Trees.mul(y, Trees.use(y, 2), Trees.use(y, 3)));
        Trees.line("it writes what the other one writes", y, 2, 0, 1, -1, -1, -1, 5, 0, 4);
        SpillslotWorks z = new SpillslotWorks();
        z.out(0);
        z.statement(0, 1, Trees.call(z, Trees.use(z, 2), Trees.use(z, 3)));
        z.statement(0, 4, Trees.call(z, Trees.use(z, 5), Trees.use(z, 6)));
        z.statement(0, 7, Trees.mul(z, Trees.use(z, 4), Trees.use(z, 2)));
        Trees.line("both are CALLS", z, 4, 9, 1, 2, 3, -1, 0, 0, 13);
        Trees.line("the second CALL", z, 5, 9, 4, 5, 6, -1, 0, 0, 8);
        z.statement(1, 7, Trees.num(z, 1));
        Due.is("other BLOCKS have no say", z.chosen(6, 7), 3);
    }

    private static void refused() {
        SpillslotWorks x = new SpillslotWorks();
        Due.index("chosen(-1, 0)", () -> x.chosen(-1, 0));
        Due.index("chosen(1, 0)", () -> x.chosen(1, 0));
        Due.index("chosen(1, 8): the index first", () -> x.chosen(1, 8));
        Due.argument("chosen(0, -1)", () -> x.chosen(0, -1));
        Due.argument("chosen(0, 8)", () -> x.chosen(0, 8));
        Due.index("cost(0) without NODES", () -> x.cost(0));
        x.node(0, 1, 0);
        Due.is("cost(0)", x.cost(0), 1);
        Due.index("cost(-1)", () -> x.cost(-1));
        Due.index("cost(1)", () -> x.cost(1));
        Due.index("cost(80)", () -> x.cost(80));
    }
}
