/** The bounds of Terms 2, and of promises 4 to 9, sentence by sentence. */
public final class EdgeProgramTest {
    public static void main(String[] args) {
        variablesBounds();
        numbersBounds();
        usesBounds();
        secondOfLeaves();
        kindsBounds();
        smallerNumbers();
        partOfNothing();
        sameNode();
        eightyNodes();
        eightyWithParts();
        statementIndices();
        statementOfPart();
        twentyFourInAll();
        twentyFourInOneBlock();
        statementCounts();
        takeTheLast();
        takeFromNone();
        timesBounds();
        timesDone();
        outBounds();
        outMayBeEmpty();
        meantBounds();
        wrapsAround();
        callGives();
        Due.end();
    }

    private static final int[] NO_VARIABLES = {Integer.MIN_VALUE, -1, 8, 9, Integer.MAX_VALUE};
    private static final int[] NO_BLOCKS = {Integer.MIN_VALUE, -1, 4, 5, Integer.MAX_VALUE};

    private static void variablesBounds() {
        Due.says("VARIABLES are 0 to 7, all 0 at first.");
        SpillslotWorks x = Told.program(255, "1: v0 = v7");
        for (int v = 0; v < 8; v++) {
            Due.is("meant(" + v + ")", x.meant(v), 0);
            Due.is("answer(" + v + ")", x.answer(v), 0);
        }
    }

    private static void numbersBounds() {
        Due.says("0 NUMBER a (-999 to 999)");
        SpillslotWorks x = new SpillslotWorks();
        int next = 0;
        for (int a : new int[] {-999, -998, -1, 0, 1, 998, 999}) {
            Due.is("node(0, " + a + ", 0)", x.node(0, a, 0), next++);
            x.statement(0, 0, next - 1);
            Due.is("the NUMBER " + a, x.meant(0), a);
        }
        for (int a : new int[] {Integer.MIN_VALUE, -1001, -1000, 1000, 1001, Integer.MAX_VALUE}) {
            Due.argument("node(0, " + a + ", 0)", () -> x.node(0, a, 0));
        }
        Told.many("none came of those", x, 0, next);
    }

    private static void usesBounds() {
        Due.says("1 USE of the VARIABLE a");
        SpillslotWorks x = new SpillslotWorks();
        for (int a = 0; a < 8; a++) {
            Due.is("node(1, " + a + ", 0)", x.node(1, a, 0), a);
        }
        for (int a : NO_VARIABLES) {
            Due.argument("node(1, " + a + ", 0)", () -> x.node(1, a, 0));
        }
        Told.many("none came of those", x, 0, 8);
    }

    private static void secondOfLeaves() {
        Due.says("or b of 0 and 1 is not 0");
        SpillslotWorks x = Told.program(1, "0: v0 = 3 + v1");
        for (int b : new int[] {Integer.MIN_VALUE, -1, 1, 2, 3, Integer.MAX_VALUE}) {
            Due.argument("node(0, 2, " + b + ")", () -> x.node(0, 2, b));
            Due.argument("node(1, 2, " + b + ")", () -> x.node(1, 2, b));
        }
        Told.many("none came of those", x, 0, 3);
    }

    private static void kindsBounds() {
        Due.says("if kind is not 0 to 5");
        SpillslotWorks x = new SpillslotWorks();
        for (int k = 0; k < 12; k++) {
            x.node(0, k, 0);
        }
        for (int kind = 0; kind < 6; kind++) {
            Due.is("node(" + kind + ", ..)", x.node(kind, 2 * kind, kind < 2 ? 0 : 2 * kind + 1),
                    12 + kind);
        }
        for (int kind : new int[] {Integer.MIN_VALUE, -1, 6, 7, 9, Integer.MAX_VALUE}) {
            Due.argument("node(" + kind + ", 0, 1)", () -> x.node(kind, 0, 1));
            Due.argument("node(" + kind + ", 0, 0)", () -> x.node(kind, 0, 0));
        }
        Told.many("none came of those", x, 0, 18);
    }

    private static void smallerNumbers() {
        Due.says("of two NODES a and b, with smaller numbers, that are part of nothing so far");
        for (int kind = 2; kind < 6; kind++) {
            int k = kind;
            SpillslotWorks x = new SpillslotWorks();
            Due.argument("of no NODES, kind " + k, () -> x.node(k, 0, 1));
            x.node(0, 1, 0);
            Due.argument("of one, kind " + k, () -> x.node(k, 0, 1));
            Due.argument("of one, the other way, kind " + k, () -> x.node(k, 1, 0));
            x.node(0, 2, 0);
            x.node(0, 3, 0);
            for (int other : new int[] {Integer.MIN_VALUE, -1, 3, 4, 79, 80, Integer.MAX_VALUE}) {
                Due.argument("kind " + k + ", b " + other, () -> x.node(k, 0, other));
                Due.argument("kind " + k + ", a " + other, () -> x.node(k, other, 0));
            }
            Due.is("the greatest and the least", x.node(k, 2, 0), 3);
            Due.is("that one and the one left over", x.node(k, 1, 3), 4);
        }
    }

    private static void partOfNothing() {
        Due.says("a NODE is part of one thing at most");
        for (int kind = 2; kind < 6; kind++) {
            int k = kind;
            SpillslotWorks x = new SpillslotWorks();
            for (int n = 0; n < 5; n++) {
                x.node(0, n, 0);
            }
            x.node(k, 0, 1);
            x.statement(2, 3, 2);
            for (int part = 0; part < 3; part++) {
                int p = part;
                Due.argument(p + " is part of something, as a", () -> x.node(k, p, 3));
                Due.argument(p + " is part of something, as b", () -> x.node(k, 3, p));
            }
            Told.many("3, 4 and 5 are part of nothing", x, 1, 3);
            x.take(2);
            Due.is("2 is part of nothing behind take", x.node(k, 2, 5), 6);
            Told.many("3, 4 and 6 are part of nothing", x, 1, 3);
        }
    }

    private static void sameNode() {
        Due.says("or both are the same NODE");
        for (int kind = 2; kind < 6; kind++) {
            int k = kind;
            SpillslotWorks x = new SpillslotWorks();
            x.node(0, 7, 0);
            x.node(0, 8, 0);
            Due.argument("node(" + k + ", 0, 0)", () -> x.node(k, 0, 0));
            Due.argument("node(" + k + ", 1, 1)", () -> x.node(k, 1, 1));
            Told.many("both are part of nothing", x, 1, 2);
            Due.is("node(" + k + ", 1, 0)", x.node(k, 1, 0), 2);
        }
    }

    private static SpillslotWorks leaves(int count) {
        SpillslotWorks x = new SpillslotWorks();
        for (int n = 0; n < count; n++) {
            Due.is("number of the NODE", x.node(n % 2, n % 8, 0), n);
        }
        return x;
    }

    private static void eightyNodes() {
        Due.says("NODES: at most 80, numbered from 0");
        SpillslotWorks x = leaves(79);
        Due.is("the last one", x.node(0, 5, 0), 79);
        Due.says("Throws `IllegalStateException` if there are 80");
        Due.state("a NUMBER more", () -> x.node(0, 5, 0));
        Due.state("a USE more", () -> x.node(1, 5, 0));
        for (int kind = 2; kind < 6; kind++) {
            int k = kind;
            Due.state("kind " + k + " more", () -> x.node(k, 78, 79));
        }
        Told.many("NODES", x, 0, 80);
        Told.many("those that are part of nothing", x, 1, 80);
        x.statement(0, 0, 79);
        x.take(0);
        Due.state("take makes no room", () -> x.node(0, 5, 0));
        Due.is("cost(79)", x.cost(79), 1);
        Due.index("cost(80)", () -> x.cost(80));
    }

    private static void eightyWithParts() {
        Due.says("Throws `IllegalStateException` if there are 80");
        SpillslotWorks x = leaves(78);
        Due.is("78 of 76 and 77", x.node(2, 76, 77), 78);
        Due.is("79 of 75 and 78", x.node(3, 75, 78), 79);
        Due.state("80 of 74 and 79", () -> x.node(4, 74, 79));
        Due.is("79 can be a STATEMENT", x.statement(3, 7, 79), 1);
        Told.many("those that are part of nothing", x, 1, 75);
    }

    private static void statementIndices() {
        Due.says("Throws `IndexOutOfBoundsException` if there is no such BLOCK, VARIABLE, or NODE");
        SpillslotWorks x = leaves(2);
        for (int block : NO_BLOCKS) {
            Due.index("statement(" + block + ", 0, 0)", () -> x.statement(block, 0, 0));
        }
        for (int variable : NO_VARIABLES) {
            Due.index("statement(0, " + variable + ", 0)", () -> x.statement(0, variable, 0));
        }
        for (int node : new int[] {Integer.MIN_VALUE, -1, 2, 3, 79, 80, Integer.MAX_VALUE}) {
            Due.index("statement(0, 0, " + node + ")", () -> x.statement(0, 0, node));
        }
        Told.many("STATEMENTS", x, 2, 0);
        Due.is("statement(0, 0, 0)", x.statement(0, 0, 0), 1);
        Due.is("statement(3, 7, 1)", x.statement(3, 7, 1), 1);
        SpillslotWorks none = new SpillslotWorks();
        Due.index("without NODES: statement(0, 0, 0)", () -> none.statement(0, 0, 0));
    }

    private static void statementOfPart() {
        Due.says("Throws `IllegalArgumentException` if the NODE is part of something");
        SpillslotWorks x = leaves(3);
        x.node(5, 1, 0);
        x.statement(1, 1, 3);
        for (int node : new int[] {0, 1, 3}) {
            Due.argument("statement(0, 0, " + node + ")", () -> x.statement(0, 0, node));
            Due.argument("statement(1, 1, " + node + ")", () -> x.statement(1, 1, node));
        }
        x.take(1);
        Due.argument("its parts stay parts", () -> x.statement(0, 0, 0));
        Due.is("it is part of nothing", x.statement(2, 0, 3), 1);
        Due.is("and so was the other one", x.statement(2, 0, 2), 2);
    }

    private static void twentyFourInAll() {
        Due.says("STATEMENTS: at most 24");
        SpillslotWorks x = leaves(80);
        for (int n = 0; n < 24; n++) {
            Due.is("STATEMENT " + n, x.statement(n % 4, n % 8, n), n / 4 + 1);
        }
        Due.says("Throws `IllegalStateException` if there are 24");
        for (int b = 0; b < 4; b++) {
            int block = b;
            Due.state("one more in BLOCK " + b, () -> x.statement(block, 0, 30));
        }
        Told.many("STATEMENTS", x, 2, 24);
        Told.many("30 is part of nothing", x, 1, 56);
        Due.is("take(3)", x.take(3), 23);
        Due.is("room for one, in another BLOCK", x.statement(0, 0, 30), 7);
        Due.state("and no more", () -> x.statement(3, 0, 23));
    }

    private static void twentyFourInOneBlock() {
        Due.says("STATEMENTS: at most 24");
        for (int b = 0; b < 4; b++) {
            int block = b;
            SpillslotWorks x = leaves(80);
            for (int n = 0; n < 24; n++) {
                Due.is("STATEMENT " + n, x.statement(b, n % 8, 2 * n), n + 1);
            }
            Due.state("one more", () -> x.statement(block, 0, 1));
            Due.is("the NUMBER of the last one", x.meant(7), 46 % 8);
            for (int n = 23; n >= 0; n--) {
                Due.is("take(" + b + ")", x.take(b), 2 * n);
            }
            Due.state("one less than none", () -> x.take(block));
        }
    }

    private static void statementCounts() {
        Due.says("Returns how many the BLOCK has then.");
        SpillslotWorks x = leaves(12);
        int[] blocks = {3, 3, 0, 3, 1, 0, 3};
        int[] counts = {1, 2, 1, 3, 1, 2, 4};
        for (int k = 0; k < blocks.length; k++) {
            Due.is("statement(" + blocks[k] + ", ..)", x.statement(blocks[k], k, k), counts[k]);
        }
        x.take(3);
        Due.is("behind take", x.statement(3, 0, 7), 4);
        Told.many("STATEMENTS", x, 2, 7);
    }

    private static void takeTheLast() {
        Due.says("Takes the last STATEMENT of a BLOCK away; its NODE is part of nothing then.");
        SpillslotWorks x = Told.program(255, "0: v1 = 5", "0: v1 = 6", "1: v2 = v1 + 1");
        Due.is("meant(2)", x.meant(2), 7);
        Due.is("answer(2)", x.answer(2), 7);
        Due.is("take(0)", x.take(0), 1);
        Due.is("meant(2) behind it", x.meant(2), 6);
        Due.is("answer(2) behind it", x.answer(2), 6);
        Told.many("STATEMENTS", x, 2, 2);
        Told.many("those that are part of nothing", x, 1, 1);
        Due.is("take(1)", x.take(1), 4);
        Due.is("meant(2) behind that", x.meant(2), 0);
        Told.many("its parts are parts still", x, 1, 2);
        Due.is("it can be told again, elsewhere", x.statement(3, 4, 4), 1);
        Due.is("meant(4)", x.meant(4), 6);
    }

    private static void takeFromNone() {
        Due.says("Throws `IllegalStateException` if it has none");
        for (int b = 0; b < 4; b++) {
            SpillslotWorks x = leaves(3);
            for (int other = 0; other < 4; other++) {
                if (other != b) {
                    x.statement(other, 0, other == 3 ? b : other);
                }
            }
            int block = b;
            Due.state("take(" + b + "), as all others have one", () -> x.take(block));
            Told.many("STATEMENTS", x, 2, 3);
        }
        Due.says("Throws `IndexOutOfBoundsException` if there is no such BLOCK");
        SpillslotWorks x = leaves(4);
        for (int n = 0; n < 4; n++) {
            x.statement(n, n, n);
        }
        for (int block : NO_BLOCKS) {
            Due.index("take(" + block + ")", () -> x.take(block));
        }
        Told.many("STATEMENTS", x, 2, 4);
    }

    private static void timesBounds() {
        Due.says("TIMES, 1 to 9 (1 at first)");
        for (int b = 0; b < 4; b++) {
            int block = b;
            SpillslotWorks x = new SpillslotWorks();
            Due.is("times(" + b + ", 9), at first", x.times(b, 9), 1);
            Due.says("Throws `IllegalArgumentException` if times is not 1 to 9");
            for (int times : new int[] {Integer.MIN_VALUE, -1, 0, 10, 11, Integer.MAX_VALUE}) {
                Due.argument("times(" + b + ", " + times + ")", () -> x.times(block, times));
            }
            Due.says("Returns those before.");
            Due.is("times(" + b + ", 1)", x.times(b, 1), 9);
            Due.is("times(" + b + ", 4)", x.times(b, 4), 1);
            for (int other = 0; other < 4; other++) {
                Due.is("those of BLOCK " + other, x.times(other, 2), other == b ? 4 : 1);
            }
        }
        SpillslotWorks x = new SpillslotWorks();
        for (int block : NO_BLOCKS) {
            Due.index("times(" + block + ", 1)", () -> x.times(block, 1));
        }
    }

    private static void timesDone() {
        Due.says("it is done so often, then the next one");
        for (int times = 1; times < 10; times++) {
            SpillslotWorks x = Told.program(3, "0: v0 = v0 + 1", "1: v0 = v0 * 2",
                    "3: v1 = v1 + v0", "3: v0 = v0 - 1");
            x.times(0, times);
            x.times(1, 3);
            x.times(2, 9);
            x.times(3, 2);
            int eight = 8 * times;
            Due.is("meant(0), " + times + " times", x.meant(0), eight - 2);
            Due.is("meant(1), " + times + " times", x.meant(1), 2 * eight - 1);
            Due.is("answer(0), " + times + " times", x.answer(0), eight - 2);
            Due.is("answer(1), " + times + " times", x.answer(1), 2 * eight - 1);
            // v0 and v1 in the ENTRY, once; v0 * 2 has an LI of its own in each round.
            Told.many(times + " times", x, 12, 2 + times + 2 * 3 + 2 * 2);
        }
    }

    private static void outBounds() {
        Due.says("OUT is a set of VARIABLES (of 0 at first)");
        SpillslotWorks x = new SpillslotWorks();
        Due.says("Returns that before.");
        Due.is("out(255), at first", x.out(255), 1);
        Due.is("out(0)", x.out(0), 255);
        Due.is("out(254)", x.out(254), 0);
        Due.says("Throws `IllegalArgumentException` if out is not 0 to 255");
        for (int out : new int[] {Integer.MIN_VALUE, -256, -1, 256, 257, 511, Integer.MAX_VALUE}) {
            Due.argument("out(" + out + ")", () -> x.out(out));
        }
        Due.is("out(1) behind those", x.out(1), 254);
        Due.says("Throws `IndexOutOfBoundsException` if there is no such one in OUT");
        for (int v = 0; v < 8; v++) {
            x.out(1 << v);
            Told.lines("OUT of " + v, x, "e: " + v + " = LI n0 h0");
            for (int asked = 0; asked < 8; asked++) {
                int a = asked;
                if (a == v) {
                    Due.is("answer(" + a + ")", x.answer(a), 0);
                } else {
                    Due.index("answer(" + a + ") with OUT of " + v, () -> x.answer(a));
                }
            }
        }
        x.out(255);
        for (int variable : new int[] {Integer.MIN_VALUE, -1, 8, 9, 31, 32, 64,
            Integer.MAX_VALUE}) {
            Due.index("answer(" + variable + ")", () -> x.answer(variable));
        }
    }

    private static void outMayBeEmpty() {
        Due.says("`out`: OUT from now on");
        SpillslotWorks x = Told.program(0, "0: v0 = 4");
        for (int v = 0; v < 8; v++) {
            int variable = v;
            Due.index("answer(" + v + ")", () -> x.answer(variable));
        }
        Told.lines("no ENTRY", x, "0: 0 = LI n4 h1");
        Due.is("meant has no need of OUT", x.meant(0), 4);
    }

    private static void meantBounds() {
        Due.says("Returns what it is at the end, by the trees alone.");
        SpillslotWorks x = Told.program(0, "2: v7 = 3 - v0", "0: v0 = 9");
        Due.is("meant(0)", x.meant(0), 9);
        Due.is("meant(7): BLOCK 0 was ahead", x.meant(7), -6);
        Due.says("Throws `IndexOutOfBoundsException` if there is no such VARIABLE");
        for (int variable : NO_VARIABLES) {
            Due.index("meant(" + variable + ")", () -> x.meant(variable));
        }
    }

    private static void wrapsAround() {
        Due.says("All numbers are whole, and go round as ints do, if nothing else is said");
        SpillslotWorks x = Told.program(255, "0: v0 = 512 * 512 * 512 * 16", "0: v1 = v0 - 1",
                "0: v2 = v1 + 1", "1: v3 = v1 + v1", "1: v4 = v1 * v1", "2: v5 = 0 - v0",
                "2: v6 = v1 * v1 + v1", "3: v7 = v0 - v1");
        int[] due = {-2147483648, 2147483647, -2147483648, -2, 1, -2147483648, -2147483648, 1};
        for (boolean isFused : new boolean[] {true, false}) {
            x.machine(8, 28, 15, isFused, isFused);
            for (int v = 0; v < 8; v++) {
                Due.is("meant(" + v + ")", x.meant(v), due[v]);
                Due.is("answer(" + v + ")", x.answer(v), due[v]);
            }
        }
    }

    private static void callGives() {
        Due.says("A CALL gives 3 * a + 2 * b + 1.");
        SpillslotWorks x = Told.program(255, "0: v0 = c(0, 0)", "0: v1 = c(5, 7)",
                "0: v2 = c(-999, 999)", "1: v3 = 512 * 512 * 512 * 16", "1: v4 = c(v3, v3)",
                "2: v5 = c(v3 - 1, 1)", "3: v6 = c(1, v3 - 1)", "3: v7 = c(v3, 0)");
        // 3 * (2^31 - 1) goes round to 2^31 - 3, and with 3 to -2^31; the last but one: 3 - 2 + 1.
        int[] due = {1, 30, -998, -2147483648, -2147483647, -2147483648, 2, -2147483647};
        for (int v = 0; v < 8; v++) {
            Due.is("meant(" + v + ")", x.meant(v), due[v]);
            Due.is("answer(" + v + ")", x.answer(v), due[v]);
        }
    }
}
