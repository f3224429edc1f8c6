/** Short names for the kinds of NODES. */
final class Trees {
    private Trees() {
    }

    static int num(SpillslotWorks x, int number) {
        return x.node(0, number, 0);
    }

    static int use(SpillslotWorks x, int variable) {
        return x.node(1, variable, 0);
    }

    static int add(SpillslotWorks x, int a, int b) {
        return x.node(2, a, b);
    }

    static int sub(SpillslotWorks x, int a, int b) {
        return x.node(3, a, b);
    }

    static int mul(SpillslotWorks x, int a, int b) {
        return x.node(4, a, b);
    }

    static int call(SpillslotWorks x, int a, int b) {
        return x.node(5, a, b);
    }

    /** The instruction at a POINT: which one, what it writes, what it reads, its number. */
    static void line(String name, SpillslotWorks x, int point, int... want) {
        for (int what = 0; what < want.length; what++) {
            Due.is(name + ": chosen(" + point + ", " + what + ")", x.chosen(point, what),
                    want[what]);
        }
    }

    /** The whole CODE: which one, its operands, its POINT. */
    static void codeIs(String name, SpillslotWorks x, int[][] want) {
        Due.is(name + ": many(9)", x.many(9), want.length);
        for (int k = 0; k < want.length && k < x.many(9); k++) {
            for (int what = 0; what < 6; what++) {
                Due.is(name + ": code(" + k + ", " + what + ")", x.code(k, what), want[k][what]);
            }
        }
    }
}
