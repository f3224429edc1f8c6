/**
 * Many programs, made by a fixed row of numbers, on which every call must answer as Reference
 * does, and the code must come to what the trees mean.
 */
public final class ReferenceTest {
    private static long state = 1;

    private static int roll(int limit) {
        state = state * 6364136223846793005L + 1442695040888963407L;
        return (int) ((state >>> 33) % limit);
    }

    public static void main(String[] args) {
        for (int run = 0; run < 1500; run++) {
            state = run * 7919L + 17;
            tryOne(run, roll(6));
        }
        Due.end();
    }

    private static void tryOne(int run, int style) {
        SpillslotWorks x = new SpillslotWorks();
        Reference y = new Reference();
        int calls = 40 + roll(240);
        tellMachine(x, y);
        for (int k = 0; k < calls; k++) {
            switch (roll(30)) {
                case 0:
                    tellMachine(x, y);
                    break;
                case 1:
                    int kind = roll(8);
                    int cycles = 1 + roll(9);
                    Due.is(run + " latency", x.latency(kind, cycles), y.now.latency[kind]);
                    y.now.latency[kind] = cycles;
                    break;
                case 2:
                    int block = roll(4);
                    int times = roll(3) == 0 ? 1 + roll(9) : 1 + roll(3);
                    Due.is(run + " times", x.times(block, times), y.times[block]);
                    y.times[block] = times;
                    break;
                case 3:
                    int out = roll(256);
                    Due.is(run + " out", x.out(out), y.out);
                    y.out = out;
                    break;
                case 4:
                    same(run, "take", () -> x.take(0), () -> y.take(0));
                    break;
                default:
                    build(run, x, y, style);
                    break;
            }
            if (roll(60) == 0) {
                same(run, "digest", x::digest, y::digest);
            }
        }
        compare(run, x, y);
    }

    private static void tellMachine(SpillslotWorks x, Reference y) {
        int registers = 5 + roll(7);
        int kept = roll(1 << registers - 3) & -4;
        y.now.registers = registers;
        y.now.kept = kept;
        y.now.small = roll(100);
        y.now.fused = roll(2) == 0;
        y.now.two = roll(2) == 0;
        x.machine(registers, kept, y.now.small, y.now.fused, y.now.two);
    }

    private static void build(int run, SpillslotWorks x, Reference y, int style) {
        int[] loose = java.util.stream.IntStream.range(0, y.nodes.size()).filter(y::loose)
                .toArray();
        int what = roll(10);
        if (what < 2 && loose.length > 0) {
            int block = roll(4);
            int variable = roll(8);
            int node = loose[roll(loose.length)];
            same(run, "statement", () -> x.statement(block, variable, node),
                    () -> y.statement(block, variable, node));
        } else if (what < 6 && loose.length > 1) {
            int[] kinds = {2, 3, 4, 5, 2 + roll(3), 2 + roll(4)};
            int kind = style < 4 && roll(2) == 0 ? kinds[style] : 2 + roll(4);
            // Styles differ in how deep the trees grow: by the newest one, or by any.
            int a = style % 2 == 0 ? loose[loose.length - 1] : loose[roll(loose.length)];
            int b = loose[roll(loose.length)];
            same(run, "node", () -> x.node(kind, a, b), () -> y.node(kind, a, b));
        } else if (roll(5) < 3) {
            int variable = roll(8);
            same(run, "use", () -> x.node(1, variable, 0), () -> y.node(1, variable, 0));
        } else {
            int number = roll(3) == 0 ? roll(1999) - 999 : roll(60) - 30;
            same(run, "number", () -> x.node(0, number, 0), () -> y.node(0, number, 0));
        }
    }

    private static long told(Due.Call call) {
        try {
            return call.go();
        } catch (IndexOutOfBoundsException e) {
            return Long.MIN_VALUE;
        } catch (IllegalArgumentException e) {
            return Long.MIN_VALUE + 1;
        } catch (IllegalStateException e) {
            return Long.MIN_VALUE + 2;
        }
    }

    private static void same(int run, String call, Due.Call x, Due.Call y) {
        Due.is(run + " " + call, told(x), told(y));
    }

    private static void compare(int run, SpillslotWorks x, Reference y) {
        Reference.Result r = y.result(y.now, true);
        for (int what = 0; what < 16; what++) {
            Due.is(run + " many(" + what + ")", x.many(what), y.many(r, what));
        }
        for (int v = 0; v < 8; v++) {
            Due.is(run + " meant(" + v + ")", x.meant(v), y.meant(v));
            if ((y.out >> v & 1) == 1) {
                Due.is(run + " answer(" + v + ")", x.answer(v), y.answer(r, v));
                Due.is(run + " answer(" + v + ") as meant", x.answer(v), y.meant(v));
            }
        }
        // This is why what a RUN begins with, and -77777, are seen in no answer.
        Due.is(run + " reads of what nothing has written", r.readsOfNothing, 0);
        comparePoints(run, x, y, r);
        for (int n = 0; n < y.nodes.size(); n++) {
            Due.is(run + " cost(" + n + ")", x.cost(n), y.cover(y.now, n).cost);
        }
        double mean = r.steps == 0 ? 0 : (double) r.stalls / r.steps;
        Due.isTrue(run + " meanStall()", x.meanStall() == mean);
        for (int k = 0; k < 3; k++) {
            int registers = 5 + roll(7);
            int kept = roll(1 << registers - 3) & -4;
            boolean two = roll(2) == 0;
            int what = 3 + roll(13);
            Due.is(run + " with", x.with(registers, kept, two, what),
                    y.with(registers, kept, two, what));
            int kind = roll(8);
            int cycles = 1 + roll(9);
            Due.is(run + " cyclesWith", x.cyclesWith(kind, cycles), y.cyclesWith(kind, cycles));
        }
        Due.is(run + " enough()", x.enough(), y.enough());
        Due.is(run + " unordered()", x.unordered(), y.unordered());
        Due.is(run + " digest()", x.digest(), y.digest());
        Due.is(run + " digest() again", x.digest(), y.digest());
    }

    private static void comparePoints(int run, SpillslotWorks x, Reference y,
            Reference.Result r) {
        for (int p = 0; p < r.points.size(); p++) {
            for (int what = 0; what < 8; what++) {
                Due.is(run + " chosen(" + p + ", " + what + ")", x.chosen(p, what),
                        y.chosen(r, p, what));
            }
        }
        for (int v = 0; v < 90; v++) {
            int value = v;
            if (!r.lives.containsKey(v)) {
                Due.index(run + " ofValue(" + v + ", 0)", () -> x.ofValue(value, 0));
                continue;
            }
            for (int what = 0; what < 8; what++) {
                Due.is(run + " ofValue(" + v + ", " + what + ")", x.ofValue(v, what),
                        y.ofValue(r, v, what));
            }
        }
        for (int c = 0; c < r.calls.size(); c++) {
            for (int what = 0; what < 4; what++) {
                Due.is(run + " mapAt(" + c + ", " + what + ")", x.mapAt(c, what),
                        y.mapAt(r, c, what));
            }
        }
        for (int k = 0; k < r.code.size(); k++) {
            for (int what = 0; what < 6; what++) {
                Due.is(run + " code(" + k + ", " + what + ")", x.code(k, what),
                        r.code.get(k).f[what]);
            }
            Due.is(run + " begins(" + k + ")", x.begins(k), r.code.get(k).begins);
        }
    }
}
