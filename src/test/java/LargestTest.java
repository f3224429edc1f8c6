/** The document's limits: 80 NODES, 24 STATEMENTS, the deepest tree, all VARIABLES at once. */
public final class LargestTest {
    public static void main(String[] args) {
        mostPoints();
        deepestTree();
        longestCode();
        mostRounds();
        Due.end();
    }

    private static void mostPoints() {
        SpillslotWorks x = new SpillslotWorks();
        x.out(255);
        x.statement(0, 0, Trees.use(x, 0));
        int[] level = new int[40];
        int expected = 0;
        for (int k = 0; k < 40; k++) {
            level[k] = Trees.num(x, 100 + k);
            expected += 100 + k;
        }
        for (int count = 40; count > 1; count -= count / 2) {
            for (int k = 0; k < count / 2; k++) {
                level[k] = Trees.add(x, level[k], level[count - 1 - k]);
            }
        }
        x.statement(1, 0, level[0]);
        Due.is("nodes", x.many(0), 80);
        // Eight in the ENTRY, and one for each NODE.
        Due.is("points", x.many(3), 88);
        Due.is("values", x.many(4), 8 + 78);
        Due.is("the sum", x.meant(0), expected);
        Due.is("the sum by the code", x.answer(0), expected);
        Due.is("the sum of all others", x.answer(7), 0);
        Due.is("the BLOCK of the last POINT", x.chosen(87, 6), 1);
        Due.index("chosen(88, 0)", () -> x.chosen(88, 0));
        Due.index("ofValue(86, 0)", () -> x.ofValue(86, 0));
        for (int registers = 5; registers < 12; registers++) {
            x.machine(registers, 0, 15, true, true);
            Due.is("the sum with " + registers + " registers", x.answer(0), expected);
        }
        Due.is("the place of the last one in the CODE", x.code(x.many(9) - 1, 5), 87);
    }

    private static void deepestTree() {
        int[] latencies = {0, 0, 1, 1, 3, 5};
        for (int kind = 2; kind < 6; kind++) {
            SpillslotWorks x = new SpillslotWorks();
            int tree = x.node(0, 300, 0);
            int meant = 300;
            while (x.many(0) < 79) {
                int leaf = Trees.num(x, 500 + x.many(0));
                int number = 500 + leaf;
                tree = x.node(kind, leaf, tree);
                meant = kind == 2 ? number + meant : kind == 3 ? number - meant
                        : kind == 4 ? number * meant : 3 * number + 2 * meant + 1;
            }
            x.statement(2, 0, tree);
            Due.is("a tree of kind " + kind, x.meant(0), meant);
            Due.is("its code", x.answer(0), meant);
            Due.index("cost(79)", () -> x.cost(79));
            Due.is("its cost is that of 40 numbers and 39 others", x.cost(tree),
                    40 + 39 * latencies[kind]);
        }
    }

    /** Each reads three VALUES of which at most two are in REGISTERS, and writes a fourth. */
    private static void longestCode() {
        SpillslotWorks x = new SpillslotWorks();
        x.machine(5, 0, 0, true, true);
        x.out(255);
        for (int k = 0; k < 16; k++) {
            int product = Trees.mul(x, Trees.use(x, k % 8), Trees.use(x, (k + 1) % 8));
            x.statement(k % 4, (k + 2) % 8, Trees.add(x, product, Trees.use(x, (k + 3) % 8)));
        }
        Due.is("nodes", x.many(0), 80);
        // Six of the VARIABLES are read ahead of being written, all but 2 and 6.
        Due.is("points", x.many(3), 22);
        for (int v = 0; v < 8; v++) {
            Due.is("answer(" + v + ")", x.answer(v), x.meant(v));
        }
        int length = x.many(9);
        Due.isTrue("the code is longer than the lines: " + length, length > 64);
        Due.is("the POINT of the last place", x.code(length - 1, 5), 21);
        Due.index("behind the last place", () -> x.code(length, 0));
    }

    private static void mostRounds() {
        SpillslotWorks x = new SpillslotWorks();
        x.out(255);
        for (int k = 0; k < 24; k++) {
            x.statement(k % 4, k % 8, k % 3 == 0 ? Trees.num(x, k + 1) : Trees.add(x,
                    Trees.use(x, (k + 5) % 8), Trees.num(x, 40)));
        }
        for (int block = 0; block < 4; block++) {
            x.times(block, 9);
        }
        for (int v = 0; v < 8; v++) {
            Due.is("answer(" + v + ")", x.answer(v), x.meant(v));
        }
        x.machine(11, 0, 99, true, false);
        int lines = x.many(3);
        int entry = 0;
        while (x.chosen(entry, 6) == -1) {
            entry++;
        }
        Due.is("nothing is spilled", x.many(5), 0);
        Due.is("steps", x.many(12), entry + 9 * (lines - entry));
    }
}
