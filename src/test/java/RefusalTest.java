import java.util.ArrayList;
import java.util.List;

/**
 * The two sentences behind Terms 8: a method that throws an exception changes nothing, and of
 * several exceptions the one that is named first is thrown.
 *
 * Each method is called with many numbers, on objects made alike; what must be thrown is worked
 * out here from the words of its promise.
 */
public final class RefusalTest {
    private static final Class<IndexOutOfBoundsException> INDEX = IndexOutOfBoundsException.class;
    private static final Class<IllegalArgumentException> ARGUMENT = IllegalArgumentException.class;
    private static final Class<IllegalStateException> STATE = IllegalStateException.class;

    private static final int LEAST = Integer.MIN_VALUE;
    private static final int MOST = Integer.MAX_VALUE;
    private static final int[] INDICES = {LEAST, -2, -1, 0, 3, 4, 7, 8, 15, 16, 79, 80, 88, MOST};

    private interface Asked {
        long go(SpillslotWorks x);
    }

    private interface Made {
        SpillslotWorks make();
    }

    public static void main(String[] args) {
        machines();
        latencies();
        nodes();
        nodesWhenFull();
        statements();
        statementsWhenFull();
        takes();
        timesAndOut();
        questions();
        wouldBe();
        severalAtOnce();
        Due.end();
    }

    /** SMALL, FUSED, TWO, KEPT, each LATENCY, TIMES and OUT make a difference to its digest. */
    private static SpillslotWorks rich() {
        SpillslotWorks x = Told.program(86, "0: v0 = v1 * v2 + v3", "0: v4 = v0 + 12",
                "1: v1 = c(v0, v4 - 11)", "1: v5 = v1 * v5", "3: v2 = v6", "3: v7 = v2 - v1");
        x.machine(7, 12, 12, true, true);
        int[] latencies = {2, 3, 2, 4, 5, 4, 2, 6};
        for (int kind = 0; kind < 8; kind++) {
            x.latency(kind, latencies[kind]);
        }
        for (int block = 0; block < 4; block++) {
            x.times(block, 2 + block);
        }
        Told.tree(x, "v5 + 77");
        x.node(1, 6, 0);
        x.node(0, -1, 0);
        return x;
    }

    private static SpillslotWorks full() {
        SpillslotWorks x = rich();
        for (int k = 0; x.many(2) < 24; k++) {
            Told.statement(x, k % 4 + ": v" + k % 8 + " = " + (k - 8));
        }
        while (x.many(0) < 80) {
            x.node(0, 5, 0);
        }
        return x;
    }

    /** All that can be seen of an object, also what is not in its digest. */
    private static String seen(SpillslotWorks x) {
        StringBuilder told = new StringBuilder();
        told.append(x.digest()).append(' ').append(x.meanStall());
        for (int n = 0; n < x.many(0); n++) {
            told.append(' ').append(x.cost(n));
        }
        for (int registers = 5; registers <= 11; registers++) {
            told.append(' ').append(x.with(registers, 0, true, 13));
        }
        // From here on it is changed.
        told.append(" m").append(x.machine(11, 252, 99, false, false)).append(' ')
                .append(x.digest());
        for (int kind = 0; kind < 8; kind++) {
            told.append(" l").append(x.latency(kind, 1));
        }
        told.append(" o").append(x.out(255));
        for (int block = 0; block < 4; block++) {
            told.append(" t").append(x.times(block, 1));
            while (taken(x, block, told)) {
                told.append(' ').append(x.many(1));
            }
        }
        told.append(' ').append(x.digest());
        for (int n = 0; n < x.many(0); n++) {
            told.append(n % 20 == 0 ? " s" : "").append(canStand(x, n) ? 1 : 0);
        }
        return told.toString();
    }

    private static boolean taken(SpillslotWorks x, int block, StringBuilder told) {
        try {
            told.append(" k").append(x.take(block));
            return true;
        } catch (IllegalStateException e) {
            return false;
        }
    }

    private static boolean canStand(SpillslotWorks x, int node) {
        try {
            x.statement(0, 0, node);
            x.take(0);
            return true;
        } catch (IllegalArgumentException e) {
            return false;
        }
    }

    private static String name(String method, Object... numbers) {
        List<String> all = new ArrayList<>();
        for (Object number : numbers) {
            all.add(number.toString());
        }
        return method + "(" + String.join(", ", all) + ")";
    }

    /** With a question ahead of it and without, so that nothing that is kept at hand is lost. */
    private static void refused(String name, Made made, String due, Class<? extends
            RuntimeException> want, Asked asked) {
        SpillslotWorks cold = made.make();
        Due.fails(name, want, () -> asked.go(cold));
        Due.isText(name + ": what is seen behind it", seen(cold), due);
        SpillslotWorks warm = made.make();
        long digest = warm.digest();
        Due.fails(name, want, () -> asked.go(warm));
        Due.is(name + ": digest() behind it", warm.digest(), digest);
    }

    private static void machines() {
        Due.says("A method that throws an exception changes nothing.");
        String due = seen(rich());
        int[] many = {LEAST, -1, 4, 5, 7, 8, 11, 12, MOST};
        int[] kepts = {LEAST, -4, -1, 0, 1, 2, 4, 8, 12, 16, 32, 128, 252, 256, MOST};
        int[] smalls = {LEAST, -1, 0, 99, 100, MOST};
        for (int r : many) {
            for (int k : kepts) {
                for (int s : smalls) {
                    boolean isFine = r >= 5 && r <= 11 && k >= 0 && s >= 0 && s <= 99;
                    for (int bit = 0; isFine && bit < 31; bit++) {
                        isFine = (k >> bit & 1) == 0 || bit >= 2 && bit < r - 3;
                    }
                    if (isFine) {
                        Due.is(name("machine", r, k, s), rich().machine(r, k, s, false, false), 7);
                    } else {
                        refused(name("machine", r, k, s), RefusalTest::rich, due, ARGUMENT,
                                x -> x.machine(r, k, s, false, false));
                    }
                }
            }
        }
    }

    private static void latencies() {
        Due.says("A method that throws an exception changes nothing.");
        String due = seen(rich());
        for (int kind : INDICES) {
            for (int cycles : new int[] {LEAST, -1, 0, 1, 9, 10, MOST}) {
                boolean isKind = kind >= 0 && kind < 8;
                if (!isKind || cycles < 1 || cycles > 9) {
                    Class<? extends RuntimeException> want = isKind ? ARGUMENT : INDEX;
                    refused(name("latency", kind, cycles), RefusalTest::rich, due, want,
                            x -> x.latency(kind, cycles));
                    refused(name("cyclesWith", kind, cycles), RefusalTest::rich, due, want,
                            x -> x.cyclesWith(kind, cycles));
                }
            }
        }
    }

    private static boolean isLoose(int node, int count) {
        // Of 24 NODES those of STATEMENTS and their parts come first, then v5 + 77 and two more.
        return node >= count - 3 && node < count;
    }

    private static void nodes() {
        Due.says("A method that throws an exception changes nothing.");
        SpillslotWorks first = rich();
        int count = first.many(0);
        Due.is("those that are part of nothing", first.many(1), 3);
        String due = seen(first);
        int[] numbers = {LEAST, -1000, -999, -1, 0, 1, 5, 7, 8, count - 4, count - 3, count - 2,
            count - 1, count, 80, 999, 1000, MOST};
        for (int kind : new int[] {LEAST, -1, 0, 1, 2, 3, 4, 5, 6, 7, 9, MOST}) {
            for (int a : numbers) {
                for (int b : numbers) {
                    boolean isFine = kind == 0 ? a >= -999 && a <= 999 && b == 0
                            : kind == 1 ? a >= 0 && a <= 7 && b == 0
                            : kind >= 2 && kind <= 5 && isLoose(a, count) && isLoose(b, count)
                            && a != b;
                    if (isFine) {
                        Due.is(name("node", kind, a, b), rich().node(kind, a, b), count);
                    } else {
                        refused(name("node", kind, a, b), RefusalTest::rich, due, ARGUMENT,
                                x -> x.node(kind, a, b));
                    }
                }
            }
        }
    }

    private static void nodesWhenFull() {
        Due.says("If several exceptions apply, the one that is named first is thrown.");
        String due = seen(full());
        int[][] bad = {{-1, 0, 0}, {6, 78, 79}, {0, 1000, 0}, {0, -1000, 0}, {0, 5, 1}, {1, 8, 0},
            {1, -1, 0}, {1, 5, 79}, {2, 79, 79}, {3, 0, 79}, {4, 79, 80}, {5, -1, 79}};
        for (int[] n : bad) {
            refused(name("full: node", n[0], n[1], n[2]), RefusalTest::full, due, ARGUMENT,
                    x -> x.node(n[0], n[1], n[2]));
        }
        int[][] good = {{0, 999, 0}, {0, -999, 0}, {1, 7, 0}, {2, 78, 79}, {3, 79, 78}, {4, 77, 79},
            {5, 77, 78}};
        for (int[] n : good) {
            refused(name("full: node", n[0], n[1], n[2]), RefusalTest::full, due, STATE,
                    x -> x.node(n[0], n[1], n[2]));
        }
    }

    private static void statements() {
        Due.says("A method that throws an exception changes nothing.");
        SpillslotWorks first = rich();
        int count = first.many(0);
        String due = seen(first);
        int[] some = {LEAST, -1, 0, 3, 4, 7, 8, MOST};
        int[] numbers = {LEAST, -1, 0, count - 4, count - 3, count - 1, count, 79, 80, MOST};
        for (int block : some) {
            for (int variable : some) {
                for (int node : numbers) {
                    boolean isThere = block >= 0 && block < 4 && variable >= 0 && variable < 8
                            && node >= 0 && node < count;
                    if (!isThere || !isLoose(node, count)) {
                        refused(name("statement", block, variable, node), RefusalTest::rich, due,
                                isThere ? ARGUMENT : INDEX,
                                x -> x.statement(block, variable, node));
                    }
                }
            }
        }
    }

    private static void statementsWhenFull() {
        Due.says("If several exceptions apply, the one that is named first is thrown.");
        SpillslotWorks first = full();
        Due.is("STATEMENTS", first.many(2), 24);
        Due.is("NODES", first.many(0), 80);
        String due = seen(first);
        // 0 is part of something, and 79 of nothing.
        int[][] index = {{4, 0, 79}, {-1, 0, 79}, {0, 8, 79}, {0, -1, 79}, {0, 0, 80}, {0, 0, -1},
            {4, 0, 0}, {0, 8, 0}, {4, 8, 80}};
        for (int[] n : index) {
            refused(name("full: statement", n[0], n[1], n[2]), RefusalTest::full, due, INDEX,
                    x -> x.statement(n[0], n[1], n[2]));
        }
        for (int block = 0; block < 4; block++) {
            int b = block;
            refused(name("full: statement", b, 0, 0), RefusalTest::full, due, ARGUMENT,
                    x -> x.statement(b, 0, 0));
            refused(name("full: statement", b, 7, 79), RefusalTest::full, due, STATE,
                    x -> x.statement(b, 7, 79));
        }
    }

    private static void takes() {
        Due.says("A method that throws an exception changes nothing.");
        String due = seen(rich());
        // BLOCK 2 has none.
        for (int block : INDICES) {
            if (block < 0 || block > 3) {
                refused(name("take", block), RefusalTest::rich, due, INDEX, x -> x.take(block));
            }
        }
        refused(name("take", 2), RefusalTest::rich, due, STATE, x -> x.take(2));
        SpillslotWorks none = new SpillslotWorks();
        Due.index("without STATEMENTS: take(4)", () -> none.take(4));
        Due.index("without STATEMENTS: take(-1)", () -> none.take(-1));
    }

    private static void timesAndOut() {
        Due.says("A method that throws an exception changes nothing.");
        String due = seen(rich());
        for (int block : INDICES) {
            for (int times : new int[] {LEAST, -1, 0, 1, 9, 10, MOST}) {
                boolean isBlock = block >= 0 && block < 4;
                if (!isBlock || times < 1 || times > 9) {
                    refused(name("times", block, times), RefusalTest::rich, due,
                            isBlock ? ARGUMENT : INDEX, x -> x.times(block, times));
                }
            }
        }
        for (int out : new int[] {LEAST, -256, -1, 256, 257, 512, MOST}) {
            refused(name("out", out), RefusalTest::rich, due, ARGUMENT, x -> x.out(out));
        }
    }

    private static void questions() {
        Due.says("A method that throws an exception changes nothing.");
        SpillslotWorks first = rich();
        int points = first.many(3);
        int places = first.many(9);
        int count = first.many(0);
        String due = seen(first);
        for (int k : new int[] {LEAST, -1, 0, 1, 2, 3, 7, 8, 9, points - 1, points, places - 1,
            places, count - 1, count, 79, 80, 87, 88, MOST}) {
            for (int what : new int[] {LEAST, -1, 0, 3, 4, 5, 6, 7, 8, 16, MOST}) {
                ask("chosen", k, what, k >= 0 && k < points, 7, due, x -> x.chosen(k, what));
                // Nine VALUES: 0 to 7, and 8 for v4 - 11, which is read by the CALL.
                ask("ofValue", k, what, k >= 0 && k < 9, 7, due, x -> x.ofValue(k, what));
                ask("mapAt", k, what, k == 0, 3, due, x -> x.mapAt(k, what));
                ask("code", k, what, k >= 0 && k < places, 5, due, x -> x.code(k, what));
            }
            ask("begins", k, 0, k >= 0 && k < places, 0, due, x -> x.begins(k));
            ask("meant", k, 0, k >= 0 && k < 8, 0, due, x -> x.meant(k));
            ask("cost", k, 0, k >= 0 && k < count, 0, due, x -> x.cost(k));
            // OUT is 86: 1, 2, 4 and 6.
            ask("answer", k, 0, k >= 0 && k < 8 && (86 >> k & 1) == 1, 0, due, x -> x.answer(k));
        }
        for (int what : new int[] {LEAST, -1, 16, 17, MOST}) {
            refused(name("many", what), RefusalTest::rich, due, ARGUMENT, x -> x.many(what));
        }
    }

    private static void ask(String method, int k, int what, boolean isThere, int most, String due,
            Asked asked) {
        if (!isThere || what < 0 || what > most) {
            refused(name(method, k, what), RefusalTest::rich, due, isThere ? ARGUMENT : INDEX,
                    asked);
        } else {
            SpillslotWorks x = rich();
            long before = x.digest();
            asked.go(x);
            Due.is(name(method, k, what) + ", and digest() behind it", x.digest(), before);
        }
    }

    private static void wouldBe() {
        Due.says("A method that throws an exception changes nothing.");
        String due = seen(rich());
        int[][] bad = {{4, 0, 9}, {12, 0, 9}, {LEAST, 0, 9}, {MOST, 0, 9}, {8, -1, 9}, {8, 1, 9},
            {8, 2, 9}, {8, 32, 9}, {5, 4, 9}, {11, 256, 9}, {8, LEAST, 9}, {8, MOST, 9},
            {8, 28, 2}, {8, 28, 0}, {8, 28, -1}, {8, 28, 16}, {8, 28, LEAST}, {8, 28, MOST},
            {4, -1, 16}};
        for (int[] n : bad) {
            for (boolean isTwo : new boolean[] {false, true}) {
                refused(name("with", n[0], n[1], isTwo, n[2]), RefusalTest::rich, due, ARGUMENT,
                        x -> x.with(n[0], n[1], isTwo, n[2]));
            }
        }
    }

    private static void severalAtOnce() {
        Due.says("If several exceptions apply, the one that is named first is thrown.");
        SpillslotWorks x = Told.program(0);
        Due.index("latency(8, 0)", () -> x.latency(8, 0));
        Due.index("statement(4, 0, 0) without NODES", () -> x.statement(4, 0, 0));
        Due.index("times(4, 0)", () -> x.times(4, 0));
        Due.index("chosen(0, 8) without POINTS", () -> x.chosen(0, 8));
        Due.index("ofValue(0, 8) without VALUES", () -> x.ofValue(0, 8));
        Due.index("mapAt(0, 4) without CALLS", () -> x.mapAt(0, 4));
        Due.index("code(0, 6) without CODE", () -> x.code(0, 6));
        Due.index("cyclesWith(8, 10)", () -> x.cyclesWith(8, 10));
    }
}
