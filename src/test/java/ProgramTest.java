/** Promises 4 to 9: node, statement, take, times, out, meant. */
public final class ProgramTest {
    public static void main(String[] args) {
        nodes();
        nodesRefused();
        nodesFull();
        statements();
        statementsRefused();
        statementsFull();
        taking();
        timesTold();
        outTold();
        meantByTrees();
        meantByRounds();
        Due.end();
    }

    private static void nodes() {
        SpillslotWorks x = new SpillslotWorks();
        Due.is("node(0, 999, 0)", x.node(0, 999, 0), 0);
        Due.is("node(0, -999, 0)", x.node(0, -999, 0), 1);
        Due.is("node(1, 0, 0)", x.node(1, 0, 0), 2);
        Due.is("node(1, 7, 0)", x.node(1, 7, 0), 3);
        Due.is("many(1): all are part of nothing", x.many(1), 4);
        Due.is("node(2, 1, 0): in either order", x.node(2, 1, 0), 4);
        Due.is("node(5, 2, 3)", x.node(5, 2, 3), 5);
        Due.is("node(3, 4, 5)", x.node(3, 4, 5), 6);
        Due.is("many(0)", x.many(0), 7);
        Due.is("many(1)", x.many(1), 1);
    }

    private static void nodesRefused() {
        SpillslotWorks x = new SpillslotWorks();
        x.node(0, 1, 0);
        x.node(0, 2, 0);
        x.node(0, 3, 0);
        x.node(2, 0, 1);
        Due.argument("node(-1, 0, 0)", () -> x.node(-1, 0, 0));
        Due.argument("node(6, 2, 3)", () -> x.node(6, 2, 3));
        Due.argument("node(0, 1000, 0)", () -> x.node(0, 1000, 0));
        Due.argument("node(0, -1000, 0)", () -> x.node(0, -1000, 0));
        Due.argument("node(0, int's least, 0)", () -> x.node(0, Integer.MIN_VALUE, 0));
        Due.argument("node(0, 1, 1)", () -> x.node(0, 1, 1));
        Due.argument("node(0, 1, -1)", () -> x.node(0, 1, -1));
        Due.argument("node(1, -1, 0)", () -> x.node(1, -1, 0));
        Due.argument("node(1, 8, 0)", () -> x.node(1, 8, 0));
        Due.argument("node(1, 1, 1)", () -> x.node(1, 1, 1));
        for (int kind = 2; kind < 6; kind++) {
            int k = kind;
            Due.argument("node(" + k + ", 0, 2): 0 is part of 3", () -> x.node(k, 0, 2));
            Due.argument("node(" + k + ", 2, 1): 1 is part of 3", () -> x.node(k, 2, 1));
            Due.argument("node(" + k + ", 2, 2)", () -> x.node(k, 2, 2));
            Due.argument("node(" + k + ", 2, 4)", () -> x.node(k, 2, 4));
            Due.argument("node(" + k + ", -1, 2)", () -> x.node(k, -1, 2));
            Due.argument("node(" + k + ", 3, 80)", () -> x.node(k, 3, 80));
        }
        Due.is("many(0) behind those that were refused", x.many(0), 4);
        Due.is("many(1) behind those that were refused", x.many(1), 2);
        x.statement(0, 0, 2);
        Due.argument("node(2, 2, 3): 2 is part of a STATEMENT", () -> x.node(2, 2, 3));
    }

    private static void nodesFull() {
        SpillslotWorks x = new SpillslotWorks();
        for (int n = 0; n < 80; n++) {
            Due.is("node number " + n, x.node(0, n, 0), n);
        }
        Due.state("node(0, 0, 0) as there are 80", () -> x.node(0, 0, 0));
        Due.state("node(2, 0, 1) as there are 80", () -> x.node(2, 0, 1));
        Due.argument("node(2, 0, 80): the argument first", () -> x.node(2, 0, 80));
        Due.argument("node(0, 1000, 0): the argument first", () -> x.node(0, 1000, 0));
        Due.is("many(1): none became part", x.many(1), 80);
    }

    private static void statements() {
        SpillslotWorks x = new SpillslotWorks();
        for (int n = 0; n < 4; n++) {
            x.node(0, n, 0);
        }
        Due.is("statement(0, 0, 0)", x.statement(0, 0, 0), 1);
        Due.is("statement(3, 7, 1)", x.statement(3, 7, 1), 1);
        Due.is("statement(0, 0, 2)", x.statement(0, 0, 2), 2);
        Due.is("statement(3, 0, 3)", x.statement(3, 0, 3), 2);
        Due.is("many(2)", x.many(2), 4);
        Due.is("many(1)", x.many(1), 0);
        // The BLOCKS are done by numbers: 0 gets 0, 2, and then 3 by the last BLOCK.
        Due.is("meant(0)", x.meant(0), 3);
        Due.is("meant(7)", x.meant(7), 1);
    }

    private static void statementsRefused() {
        SpillslotWorks x = new SpillslotWorks();
        x.node(0, 1, 0);
        x.node(0, 2, 0);
        x.node(2, 0, 1);
        Due.index("statement(-1, 0, 2)", () -> x.statement(-1, 0, 2));
        Due.index("statement(4, 0, 2)", () -> x.statement(4, 0, 2));
        Due.index("statement(0, -1, 2)", () -> x.statement(0, -1, 2));
        Due.index("statement(0, 8, 2)", () -> x.statement(0, 8, 2));
        Due.index("statement(0, 0, -1)", () -> x.statement(0, 0, -1));
        Due.index("statement(0, 0, 3)", () -> x.statement(0, 0, 3));
        Due.index("statement(4, 0, 0): the index first", () -> x.statement(4, 0, 0));
        Due.index("statement(0, 8, 0): the index first", () -> x.statement(0, 8, 0));
        Due.argument("statement(0, 0, 0): 0 is part of 2", () -> x.statement(0, 0, 0));
        x.statement(0, 0, 2);
        Due.argument("statement(1, 0, 2): 2 is part of a STATEMENT", () -> x.statement(1, 0, 2));
        Due.is("many(2)", x.many(2), 1);
    }

    private static void statementsFull() {
        SpillslotWorks x = new SpillslotWorks();
        for (int n = 0; n < 26; n++) {
            x.node(0, n, 0);
        }
        for (int n = 0; n < 24; n++) {
            Due.is("statement(" + n % 4 + ", ..)", x.statement(n % 4, n % 8, n), n / 4 + 1);
        }
        Due.state("statement(0, 0, 24) as there are 24", () -> x.statement(0, 0, 24));
        Due.argument("statement(0, 0, 0): the argument first", () -> x.statement(0, 0, 0));
        Due.index("statement(4, 0, 24): the index first", () -> x.statement(4, 0, 24));
        Due.is("many(1): those are part of nothing still", x.many(1), 2);
        Due.is("take(2)", x.take(2), 22);
        Due.is("statement(0, 0, 24) behind take", x.statement(0, 0, 24), 7);
        Due.state("statement(0, 0, 25) as there are 24 again", () -> x.statement(0, 0, 25));
        SpillslotWorks y = new SpillslotWorks();
        for (int n = 0; n < 24; n++) {
            y.node(0, n, 0);
            Due.is("all 24 in one BLOCK", y.statement(3, 0, n), n + 1);
        }
        Due.is("meant(0)", y.meant(0), 23);
    }

    private static void taking() {
        SpillslotWorks x = new SpillslotWorks();
        for (int n = 0; n < 3; n++) {
            x.node(0, n + 5, 0);
        }
        Due.state("take(0) of a BLOCK without any", () -> x.take(0));
        x.statement(0, 1, 2);
        x.statement(0, 2, 0);
        x.statement(1, 3, 1);
        Due.index("take(-1)", () -> x.take(-1));
        Due.index("take(4)", () -> x.take(4));
        Due.is("take(0)", x.take(0), 0);
        Due.is("meant(2) behind it", x.meant(2), 0);
        Due.is("meant(1) behind it", x.meant(1), 7);
        Due.is("many(1) behind it", x.many(1), 1);
        Due.is("take(0) again", x.take(0), 2);
        Due.state("take(0) as none is left", () -> x.take(0));
        Due.is("node(2, 0, 2): both are part of nothing", x.node(2, 0, 2), 3);
        Due.is("take(1)", x.take(1), 1);
        Due.is("many(2)", x.many(2), 0);
        Due.is("statement(2, 0, 1) once more", x.statement(2, 0, 1), 1);
    }

    private static void timesTold() {
        SpillslotWorks x = new SpillslotWorks();
        Due.is("times(0, 9)", x.times(0, 9), 1);
        Due.is("times(0, 1)", x.times(0, 1), 9);
        Due.is("times(3, 4)", x.times(3, 4), 1);
        Due.index("times(-1, 1)", () -> x.times(-1, 1));
        Due.index("times(4, 1)", () -> x.times(4, 1));
        Due.index("times(4, 0): the index first", () -> x.times(4, 0));
        Due.argument("times(3, 0)", () -> x.times(3, 0));
        Due.argument("times(3, 10)", () -> x.times(3, 10));
        Due.is("times(3, 4) behind those that were refused", x.times(3, 4), 4);
        Due.is("times(1, 1)", x.times(1, 1), 1);
    }

    private static void outTold() {
        SpillslotWorks x = new SpillslotWorks();
        Due.is("out(255)", x.out(255), 1);
        Due.is("out(255): points", x.many(3), 8);
        Due.is("out(0)", x.out(0), 255);
        Due.argument("out(256)", () -> x.out(256));
        Due.argument("out(-1)", () -> x.out(-1));
        Due.is("out(6) behind those that were refused", x.out(6), 0);
        Due.is("out(6): points", x.many(3), 2);
        Due.is("out(6): chosen(1, 1)", x.chosen(1, 1), 2);
    }

    private static void meantByTrees() {
        SpillslotWorks x = new SpillslotWorks();
        Due.index("meant(-1)", () -> x.meant(-1));
        Due.index("meant(8)", () -> x.meant(8));
        x.statement(0, 0, Trees.sub(x, Trees.num(x, 5), Trees.num(x, 12)));
        x.statement(0, 1, Trees.mul(x, Trees.use(x, 0), Trees.num(x, 100)));
        x.statement(0, 2, Trees.call(x, Trees.use(x, 0), Trees.use(x, 1)));
        x.statement(0, 3, Trees.add(x, Trees.use(x, 2), Trees.use(x, 4)));
        x.statement(1, 4, Trees.use(x, 3));
        Due.is("5 - 12", x.meant(0), -7);
        Due.is("-7 * 100", x.meant(1), -700);
        Due.is("the call of -7 and -700", x.meant(2), -1420);
        Due.is("-1420 + 0", x.meant(3), -1420);
        Due.is("a use alone", x.meant(4), -1420);
        Due.is("never written", x.meant(5), 0);
        Due.is("out or not, meant is free of it: " + x.out(0), x.meant(4), -1420);
    }

    private static void meantByRounds() {
        SpillslotWorks x = new SpillslotWorks();
        x.statement(0, 0, Trees.num(x, 999));
        x.statement(1, 0, Trees.mul(x, Trees.use(x, 0), Trees.use(x, 0)));
        x.statement(1, 1, Trees.add(x, Trees.use(x, 1), Trees.use(x, 0)));
        Due.is("999 squared", x.meant(0), 998001);
        x.times(1, 4);
        int square = 999;
        int sum = 0;
        for (int round = 0; round < 4; round++) {
            square *= square;
            sum += square;
        }
        Due.is("it goes round as ints do", x.meant(0), square);
        Due.is("and so does the sum", x.meant(1), sum);
        x.out(3);
        Due.is("the code comes to the same", x.answer(0), square);
        Due.is("the code comes to the same sum", x.answer(1), sum);
    }
}
