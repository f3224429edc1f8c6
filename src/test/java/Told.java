/**
 * Programs, instructions and CODE as short texts.
 *
 * A STATEMENT is told as "block: vN = tree"; a tree has numbers, v0 to v7, + - * and c(a, b) for
 * a CALL, and makes its NODES from left to right, parts first.
 */
final class Told {
    private static final String[] NAMES = {"LI", "MOVE", "ADD", "SUB", "MUL", "ADDI", "FUSE",
        "LOAD", "STORE", "CALL"};
    private static final int[] OPERANDS = {2, 2, 3, 3, 3, 3, 4, 2, 2, 0};

    private final SpillslotWorks works;
    private final String text;
    private int at;

    private Told(SpillslotWorks works, String text) {
        this.works = works;
        this.text = text.replace(" ", "");
    }

    /** A new object with OUT and STATEMENTS. */
    static SpillslotWorks program(int out, String... statements) {
        SpillslotWorks x = new SpillslotWorks();
        x.out(out);
        for (String told : statements) {
            statement(x, told);
        }
        return x;
    }

    /** Answers the NODE of the STATEMENT. */
    static int statement(SpillslotWorks x, String told) {
        int colon = told.indexOf(':');
        int equals = told.indexOf('=');
        int block = Integer.parseInt(told.substring(0, colon).trim());
        int variable = Integer.parseInt(told.substring(colon + 1, equals).trim().substring(1));
        int node = tree(x, told.substring(equals + 1));
        x.statement(block, variable, node);
        return node;
    }

    /** Answers the NODE of the tree, which is part of nothing. */
    static int tree(SpillslotWorks x, String told) {
        Told t = new Told(x, told);
        int node = t.sum();
        if (t.at < t.text.length()) {
            throw new IllegalStateException("no tree: " + told);
        }
        return node;
    }

    private char next() {
        return at < text.length() ? text.charAt(at) : ' ';
    }

    private int sum() {
        int node = product();
        while (next() == '+' || next() == '-') {
            int kind = text.charAt(at++) == '+' ? 2 : 3;
            node = works.node(kind, node, product());
        }
        return node;
    }

    private int product() {
        int node = leaf();
        while (next() == '*') {
            at++;
            node = works.node(4, node, leaf());
        }
        return node;
    }

    private int leaf() {
        char c = text.charAt(at++);
        if (c == 'v') {
            return works.node(1, text.charAt(at++) - '0', 0);
        }
        if (c == '(') {
            int node = sum();
            at++;
            return node;
        }
        if (c == 'c') {
            at++;
            int first = sum();
            at++;
            int second = sum();
            at++;
            return works.node(5, first, second);
        }
        int from = at - 1;
        while (Character.isDigit(next())) {
            at++;
        }
        return works.node(0, Integer.parseInt(text.substring(from, at)), 0);
    }

    /** All POINTS, each as "block: value = NAME reads n.. h..", with e for the ENTRY. */
    static void lines(String name, SpillslotWorks x, String... want) {
        StringBuilder got = new StringBuilder();
        for (int point = 0; point < x.many(3); point++) {
            got.append(point == 0 ? "" : " | ").append(line(name, x, point));
        }
        Due.isText(name + ": POINTS", got.toString(), String.join(" | ", want));
    }

    static String line(String name, SpillslotWorks x, int point) {
        int kind = x.chosen(point, 0);
        StringBuilder got = new StringBuilder();
        got.append(x.chosen(point, 6) == -1 ? "e" : "" + x.chosen(point, 6)).append(": ");
        got.append(x.chosen(point, 1)).append(" = ").append(NAMES[kind]);
        for (int what = 2; what < 5; what++) {
            if (x.chosen(point, what) != -1) {
                got.append(' ').append(x.chosen(point, what));
            }
        }
        if (kind == 0 || kind == 5) {
            got.append(" n").append(x.chosen(point, 5));
        } else {
            Due.is(name + ": chosen(" + point + ", 5), without a number", x.chosen(point, 5), 0);
        }
        return got.append(" h").append(x.chosen(point, 7)).toString();
    }

    /** The whole CODE, each place as "point NAME operands". */
    static void code(String name, SpillslotWorks x, String... want) {
        codeFrom(0, name, x, want);
    }

    /** The CODE of all POINTS from one on. */
    static void codeFrom(int point, String name, SpillslotWorks x, String... want) {
        StringBuilder got = new StringBuilder();
        for (int k = 0; k < x.many(9); k++) {
            if (x.code(k, 5) >= point) {
                got.append(got.length() == 0 ? "" : " | ").append(place(name, x, k));
            }
        }
        Due.isText(name + ": CODE", got.toString(), String.join(" | ", want));
    }

    static String place(String name, SpillslotWorks x, int k) {
        int kind = x.code(k, 0);
        StringBuilder got = new StringBuilder();
        got.append(x.code(k, 5)).append(' ').append(NAMES[kind]);
        for (int what = 1; what < 5; what++) {
            if (what <= OPERANDS[kind]) {
                got.append(' ').append(x.code(k, what));
            } else {
                Due.is(name + ": code(" + k + ", " + what + "), not named", x.code(k, what), 0);
            }
        }
        return got.toString();
    }

    static void begins(String name, SpillslotWorks x, int... want) {
        Due.is(name + ": many(9)", x.many(9), want.length);
        for (int k = 0; k < want.length && k < x.many(9); k++) {
            Due.is(name + ": begins(" + k + ")", x.begins(k), want[k]);
        }
    }

    /** What ofValue() tells, from 0 on. */
    static void value(String name, SpillslotWorks x, int value, int... want) {
        for (int what = 0; what < want.length; what++) {
            Due.is(name + ": ofValue(" + value + ", " + what + ")", x.ofValue(value, what),
                    want[what]);
        }
    }

    /** What many() tells of these. */
    static void many(String name, SpillslotWorks x, int what, int want) {
        Due.is(name + ": many(" + what + ")", x.many(what), want);
    }
}
