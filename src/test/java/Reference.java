import java.util.ArrayList;
import java.util.Arrays;
import java.util.Comparator;
import java.util.HashMap;
import java.util.List;
import java.util.Map;
import java.util.TreeMap;
import java.util.TreeSet;

/**
 * The document's Terms once more, as plainly as the Java library allows, to hold the program
 * against: everything is made anew for each question, and nothing is shared with the program.
 */
final class Reference {
    static final class Node {
        int kind;
        int a;
        int b;
        boolean part;
    }

    static final class Statement {
        int variable;
        int node;
    }

    static final class Setting {
        int registers = 8;
        int kept = 28;
        int small = 15;
        boolean fused = true;
        boolean two = false;
        int[] latency = {1, 1, 1, 3, 3, 2, 1, 5};

        Setting copy() {
            Setting s = new Setting();
            s.registers = registers;
            s.kept = kept;
            s.small = small;
            s.fused = fused;
            s.two = two;
            s.latency = latency.clone();
            return s;
        }

        int s() {
            return registers - 3;
        }
    }

    static final class Cover {
        int cost;
        int kind;
        int n;
        List<Integer> of = new ArrayList<>();
        List<Integer> inOrder = new ArrayList<>();
    }

    static final class Instruction {
        int kind;
        int writes;
        List<Integer> reads = new ArrayList<>();
        int n;
        int block;
        int height;
    }

    static final class Life {
        int value;
        int first;
        int last;
        int weight;
        int crosses;
        int writes;
        int reads;
        int register = -1;
        int slot = -1;
        boolean remade;
        int number;
        boolean given;
    }

    static final class Op {
        int[] f = new int[6];
        int begins = -1;
    }

    /** All that is known of a program on a machine. */
    static final class Result {
        List<Instruction> points = new ArrayList<>();
        TreeMap<Integer, Life> lives = new TreeMap<>();
        List<Integer> calls = new ArrayList<>();
        List<Op> code = new ArrayList<>();
        int frame;
        int slots;
        long steps;
        long cycles;
        long stalls;
        int[] registers = new int[11];
        Map<Integer, Integer> memory = new HashMap<>();
        // How often a REGISTER or SLOT is read that has what a RUN begins with, or a CALL leaves.
        int readsOfNothing;
    }

    final List<Node> nodes = new ArrayList<>();
    final List<List<Statement>> blocks = new ArrayList<>();
    final int[] times = {1, 1, 1, 1};
    int out = 1;
    Setting now = new Setting();

    Reference() {
        for (int i = 0; i < 4; i++) {
            blocks.add(new ArrayList<>());
        }
    }

    // ---- the program

    boolean loose(int n) {
        return n >= 0 && n < nodes.size() && !nodes.get(n).part;
    }

    int node(int kind, int a, int b) {
        boolean fine;
        if (kind == 0) {
            fine = Math.abs((long) a) <= 999 && b == 0;
        } else if (kind == 1) {
            fine = a >= 0 && a <= 7 && b == 0;
        } else {
            fine = kind >= 2 && kind <= 5 && loose(a) && loose(b) && a != b;
        }
        if (!fine) {
            throw new IllegalArgumentException();
        }
        if (nodes.size() == 80) {
            throw new IllegalStateException();
        }
        Node n = new Node();
        n.kind = kind;
        n.a = a;
        n.b = b;
        nodes.add(n);
        if (kind > 1) {
            nodes.get(a).part = true;
            nodes.get(b).part = true;
        }
        return nodes.size() - 1;
    }

    int statements() {
        return blocks.stream().mapToInt(List::size).sum();
    }

    int statement(int block, int variable, int node) {
        if (block < 0 || block > 3 || variable < 0 || variable > 7
                || node < 0 || node >= nodes.size()) {
            throw new IndexOutOfBoundsException();
        }
        if (nodes.get(node).part) {
            throw new IllegalArgumentException();
        }
        if (statements() == 24) {
            throw new IllegalStateException();
        }
        Statement s = new Statement();
        s.variable = variable;
        s.node = node;
        blocks.get(block).add(s);
        nodes.get(node).part = true;
        return blocks.get(block).size();
    }

    int take(int block) {
        if (block < 0 || block > 3) {
            throw new IndexOutOfBoundsException();
        }
        List<Statement> list = blocks.get(block);
        if (list.isEmpty()) {
            throw new IllegalStateException();
        }
        Statement s = list.remove(list.size() - 1);
        nodes.get(s.node).part = false;
        return s.node;
    }

    int meant(int variable) {
        int[] v = new int[8];
        for (int b = 0; b < 4; b++) {
            for (int t = 0; t < times[b]; t++) {
                for (Statement s : blocks.get(b)) {
                    v[s.variable] = value(s.node, v);
                }
            }
        }
        return v[variable];
    }

    private int value(int node, int[] v) {
        Node n = nodes.get(node);
        if (n.kind == 0) {
            return n.a;
        }
        if (n.kind == 1) {
            return v[n.a];
        }
        int x = value(n.a, v);
        int y = value(n.b, v);
        return n.kind == 2 ? x + y : n.kind == 3 ? x - y : n.kind == 4 ? x * y : 3 * x + 2 * y + 1;
    }

    // ---- choosing

    private boolean small(Setting m, int node) {
        Node n = nodes.get(node);
        return n.kind == 0 && Math.abs(n.a) <= m.small;
    }

    Cover cover(Setting m, int node) {
        Node n = nodes.get(node);
        List<Cover> all = new ArrayList<>();
        if (n.kind == 0) {
            all.add(made(m, 0, n.a, 0, List.of(), List.of()));
        } else if (n.kind == 1) {
            Cover c = new Cover();
            c.kind = 1;
            return c;
        } else if (n.kind == 5) {
            all.add(made(m, 9, 0, 7, List.of(n.a, n.b), List.of(n.a, n.b)));
        } else {
            all.add(made(m, n.kind, 0, n.kind == 4 ? 3 : 2, List.of(n.a, n.b), List.of(n.a, n.b)));
            if (n.kind != 4 && small(m, n.b)) {
                int number = nodes.get(n.b).a;
                all.add(made(m, 5, n.kind == 2 ? number : -number, 2, List.of(n.a), List.of(n.a)));
            } else if (n.kind == 2 && small(m, n.a)) {
                all.add(made(m, 5, nodes.get(n.a).a, 2, List.of(n.b), List.of(n.b)));
            }
            if (m.fused && n.kind == 2) {
                Node a = nodes.get(n.a);
                Node b = nodes.get(n.b);
                if (a.kind == 4) {
                    all.add(made(m, 6, 0, 4, List.of(a.a, a.b, n.b), List.of(a.a, a.b, n.b)));
                } else if (b.kind == 4) {
                    all.add(made(m, 6, 0, 4, List.of(b.a, b.b, n.a), List.of(n.a, b.a, b.b)));
                }
            }
        }
        return all.stream().min(Comparator.comparingInt(c -> c.cost)).get();
    }

    private Cover made(Setting m, int kind, int n, int latency, List<Integer> of,
            List<Integer> inOrder) {
        Cover c = new Cover();
        c.kind = kind;
        c.n = n;
        c.of = of;
        c.inOrder = inOrder;
        c.cost = m.latency[latency];
        for (int part : of) {
            c.cost += cover(m, part).cost;
        }
        return c;
    }

    private int next;

    private int emit(Setting m, int node, int target, int block, List<Instruction> into) {
        Node n = nodes.get(node);
        if (n.kind == 1 && target < 0) {
            return n.a;
        }
        Cover c = cover(m, node);
        Map<Integer, Integer> got = new HashMap<>();
        for (int part : c.inOrder) {
            got.put(part, emit(m, part, -1, block, into));
        }
        Instruction i = new Instruction();
        i.kind = c.kind;
        i.n = c.n;
        i.block = block;
        for (int part : c.of) {
            i.reads.add(got.get(part));
        }
        if (n.kind == 1) {
            i.reads.add(n.a);
        }
        i.writes = target < 0 ? next++ : target;
        into.add(i);
        return i.writes;
    }

    // ---- order

    static final int[] LATENCY = {0, 1, 2, 2, 3, 2, 4, 5, 6, 7};

    private static boolean needs(Instruction later, Instruction earlier) {
        return later.reads.contains(earlier.writes) || earlier.reads.contains(later.writes)
                || later.writes == earlier.writes || later.kind == 9 && earlier.kind == 9;
    }

    private static List<Instruction> ordered(Setting m, List<Instruction> list, boolean change) {
        for (int i = list.size() - 1; i >= 0; i--) {
            int most = 0;
            for (int j = i + 1; j < list.size(); j++) {
                if (needs(list.get(j), list.get(i))) {
                    most = Math.max(most, list.get(j).height);
                }
            }
            list.get(i).height = most + m.latency[LATENCY[list.get(i).kind]];
        }
        if (!change) {
            return list;
        }
        List<Instruction> left = new ArrayList<>(list);
        List<Instruction> done = new ArrayList<>();
        while (!left.isEmpty()) {
            Instruction best = null;
            for (int i = 0; i < left.size(); i++) {
                Instruction c = left.get(i);
                boolean ready = left.subList(0, i).stream().noneMatch(e -> needs(c, e));
                if (ready && (best == null || c.height > best.height)) {
                    best = c;
                }
            }
            left.remove(best);
            done.add(best);
        }
        return done;
    }

    // ---- all of it

    Result result(Setting m, boolean change) {
        Result r = new Result();
        next = 8;
        TreeSet<Integer> early = new TreeSet<>();
        TreeSet<Integer> written = new TreeSet<>();
        List<List<Instruction>> byBlock = new ArrayList<>();
        for (int b = 0; b < 4; b++) {
            List<Instruction> list = new ArrayList<>();
            for (Statement s : blocks.get(b)) {
                for (int used : uses(s.node, new ArrayList<>())) {
                    if (!written.contains(used)) {
                        early.add(used);
                    }
                }
                written.add(s.variable);
                emit(m, s.node, s.variable, b, list);
            }
            byBlock.add(list);
        }
        for (int v = 0; v < 8; v++) {
            if ((out >> v & 1) == 1 && !written.contains(v)) {
                early.add(v);
            }
        }
        for (int v : early) {
            Instruction i = new Instruction();
            i.writes = v;
            i.block = -1;
            r.points.add(i);
        }
        int[] start = new int[5];
        for (int b = 0; b < 4; b++) {
            start[b] = r.points.size();
            r.points.addAll(ordered(m, byBlock.get(b), change));
        }
        start[4] = r.points.size();
        lives(r, start);
        give(m, r);
        slots(m, r);
        code(m, r);
        run(m, r);
        return r;
    }

    private List<Integer> uses(int node, List<Integer> into) {
        Node n = nodes.get(node);
        if (n.kind == 1) {
            into.add(n.a);
        } else if (n.kind > 1) {
            uses(n.a, into);
            uses(n.b, into);
        }
        return into;
    }

    private int timesOf(Instruction i) {
        return i.block < 0 ? 1 : times[i.block];
    }

    private void lives(Result r, int[] start) {
        int end = r.points.size();
        Map<Integer, Integer> sum = new HashMap<>();
        for (int p = 0; p < end; p++) {
            Instruction i = r.points.get(p);
            Life w = r.lives.get(i.writes);
            if (w == null) {
                w = new Life();
                w.value = i.writes;
                w.first = p;
                r.lives.put(i.writes, w);
            }
            w.writes++;
            w.last = p;
            sum.merge(i.writes, timesOf(i), Integer::sum);
            for (int read : i.reads) {
                r.lives.get(read).reads++;
                r.lives.get(read).last = p;
                sum.merge(read, timesOf(i), Integer::sum);
            }
            if (i.kind == 9) {
                r.calls.add(p);
            }
        }
        for (Life l : r.lives.values()) {
            int block = r.points.get(l.last).block;
            if (l.value < 8 && (out >> l.value & 1) == 1) {
                l.last = end;
            } else if (block >= 0 && times[block] > 1 && l.first < start[block]) {
                l.last = start[block + 1];
            }
            l.weight = 100 * sum.get(l.value) / (l.last - l.first + 1);
            l.crosses = (int) r.calls.stream().filter(p -> l.first < p && p < l.last).count();
        }
    }

    private static void give(Setting m, Result r) {
        List<Life> order = new ArrayList<>(r.lives.values());
        order.sort(Comparator.comparingInt(l -> l.first));
        for (Life l : order) {
            TreeSet<Integer> could = new TreeSet<>();
            for (int k = 0; k < m.s(); k++) {
                if (l.crosses == 0 || (m.kept >> k & 1) == 1) {
                    could.add(k);
                }
            }
            TreeSet<Integer> free = new TreeSet<>(could);
            List<Life> rivals = new ArrayList<>();
            for (Life o : order) {
                if (o.given && o.register >= 0 && o.last > l.first) {
                    free.remove(o.register);
                    if (could.contains(o.register)) {
                        rivals.add(o);
                    }
                }
            }
            l.given = true;
            if (free.isEmpty()) {
                rivals.add(l);
                rivals.sort(Comparator.<Life>comparingInt(o -> o.weight)
                        .thenComparingInt(o -> -o.value));
                Life spilled = rivals.get(0);
                if (spilled != l) {
                    l.register = spilled.register;
                    spilled.register = -1;
                }
                continue;
            }
            Instruction i = r.points.get(l.first);
            l.register = free.first();
            if (i.kind == 1 || m.two && i.kind >= 2 && i.kind <= 4) {
                int liked = r.lives.get(i.reads.get(0)).register;
                if (free.contains(liked)) {
                    l.register = liked;
                }
            }
        }
    }

    private static void slots(Setting m, Result r) {
        List<Life> order = new ArrayList<>(r.lives.values());
        order.sort(Comparator.comparingInt(l -> l.first));
        List<Life> have = new ArrayList<>();
        TreeSet<Integer> kept = new TreeSet<>();
        for (Life l : order) {
            if (l.register >= 0) {
                if ((m.kept >> l.register & 1) == 1) {
                    kept.add(l.register);
                }
                continue;
            }
            if (l.writes == 1 && r.points.get(l.first).kind == 0) {
                l.remade = true;
                l.number = r.points.get(l.first).n;
                continue;
            }
            int slot = 0;
            while (true) {
                int s = slot;
                if (have.stream().noneMatch(o -> o.slot == s && o.first <= l.last
                        && l.first <= o.last)) {
                    break;
                }
                slot++;
            }
            l.slot = slot;
            have.add(l);
            r.slots = Math.max(r.slots, slot + 1);
        }
        r.frame = r.slots + kept.size();
        if (r.frame % 2 == 1) {
            r.frame++;
        }
    }

    // ---- code

    private static void put(Result r, int point, int kind, int... operands) {
        if (kind == 1 && operands[0] == operands[1]) {
            return;
        }
        Op op = new Op();
        op.f[0] = kind;
        System.arraycopy(operands, 0, op.f, 1, operands.length);
        op.f[5] = point;
        r.code.add(op);
    }

    private static void load(Result r, int point, Life l, int into) {
        if (l.register >= 0) {
            put(r, point, 1, into, l.register);
        } else if (l.remade) {
            put(r, point, 0, into, l.number);
        } else {
            put(r, point, 7, into, l.slot);
        }
    }

    private static void code(Setting m, Result r) {
        for (int p = 0; p < r.points.size(); p++) {
            Instruction i = r.points.get(p);
            Life w = r.lives.get(i.writes);
            if (i.kind == 9) {
                call(m, r, p, r.lives.get(i.reads.get(0)), r.lives.get(i.reads.get(1)), w);
                continue;
            }
            if (w.remade) {
                continue;
            }
            int[] in = new int[i.reads.size()];
            for (int k = 0; k < in.length; k++) {
                Life l = r.lives.get(i.reads.get(k));
                in[k] = l.register;
                if (in[k] < 0) {
                    in[k] = m.s() + k;
                    load(r, p, l, in[k]);
                }
            }
            int d = w.register < 0 ? m.s() : w.register;
            if (i.kind == 0) {
                put(r, p, 0, d, i.n);
            } else if (i.kind == 1) {
                put(r, p, 1, d, in[0]);
            } else {
                compute(m, r, p, i, d, in);
            }
            if (w.register < 0) {
                put(r, p, 8, m.s(), w.slot);
            }
        }
    }

    private static void compute(Setting m, Result r, int p, Instruction i, int d, int[] in) {
        int to = d;
        if (m.two && in[0] != d) {
            boolean later = Arrays.stream(in).skip(1).anyMatch(x -> x == d);
            if (!later) {
                put(r, p, 1, d, in[0]);
                in[0] = d;
            } else if (i.kind == 2 || i.kind == 4) {
                in[1] = in[0];
                in[0] = d;
            } else {
                put(r, p, 1, m.s(), in[0]);
                in[0] = m.s();
                to = m.s();
            }
        }
        if (i.kind == 5) {
            put(r, p, 5, to, in[0], i.n);
        } else if (i.kind == 6) {
            put(r, p, 6, to, in[0], in[1], in[2]);
        } else {
            put(r, p, i.kind, to, in[0], in[1]);
        }
        put(r, p, 1, d, to);
    }

    private static void call(Setting m, Result r, int p, Life a, Life b, Life w) {
        if (a.register == 1 && b.register == 0) {
            put(r, p, 1, m.s(), 0);
            put(r, p, 1, 0, 1);
            put(r, p, 1, 1, m.s());
        } else if (b.register == 0) {
            put(r, p, 1, 1, 0);
            load(r, p, a, 0);
        } else {
            load(r, p, a, 0);
            load(r, p, b, 1);
        }
        put(r, p, 9);
        if (w.register < 0) {
            put(r, p, 8, 0, w.slot);
        } else {
            put(r, p, 1, w.register, 0);
        }
    }

    // ---- run

    private void run(Setting m, Result r) {
        List<Op> all = new ArrayList<>();
        for (int b = -1; b < 4; b++) {
            for (int t = 0; t < (b < 0 ? 1 : times[b]); t++) {
                for (Op op : r.code) {
                    if (r.points.get(op.f[5]).block == b) {
                        all.add(op);
                    }
                }
            }
        }
        long[] ready = new long[11];
        boolean[] has = new boolean[11];
        int[] g = r.registers;
        long before = -1;
        for (Op op : all) {
            int[] f = op.f;
            long begin = before + 1;
            for (int x : readRegisters(f)) {
                begin = Math.max(begin, ready[x]);
                r.readsOfNothing += has[x] ? 0 : 1;
            }
            r.readsOfNothing += f[0] == 7 && !r.memory.containsKey(f[2]) ? 1 : 0;
            r.stalls += begin - before - 1;
            if (op.begins < 0) {
                op.begins = (int) begin;
            }
            long done = begin + m.latency[LATENCY[f[0]]];
            if (f[0] == 8) {
                r.memory.put(f[2], g[f[1]]);
            } else if (f[0] == 9) {
                int result = 3 * g[0] + 2 * g[1] + 1;
                for (int k = 0; k < m.registers; k++) {
                    if ((m.kept >> k & 1) == 0) {
                        g[k] = -77777;
                        ready[k] = begin;
                        has[k] = false;
                    }
                }
                g[0] = result;
                ready[0] = done;
                has[0] = true;
            } else {
                g[f[1]] = computed(f, g, r.memory);
                ready[f[1]] = done;
                has[f[1]] = true;
            }
            before = begin;
            r.cycles = done;
            r.steps++;
        }
    }

    private static int[] readRegisters(int[] f) {
        switch (f[0]) {
            case 1:
            case 5:
                return new int[] {f[2]};
            case 2:
            case 3:
            case 4:
                return new int[] {f[2], f[3]};
            case 6:
                return new int[] {f[2], f[3], f[4]};
            case 8:
                return new int[] {f[1]};
            case 9:
                return new int[] {0, 1};
            default:
                return new int[0];
        }
    }

    private static int computed(int[] f, int[] g, Map<Integer, Integer> memory) {
        switch (f[0]) {
            case 0:
                return f[2];
            case 1:
                return g[f[2]];
            case 2:
                return g[f[2]] + g[f[3]];
            case 3:
                return g[f[2]] - g[f[3]];
            case 4:
                return g[f[2]] * g[f[3]];
            case 5:
                return g[f[2]] + f[3];
            case 6:
                return g[f[2]] * g[f[3]] + g[f[4]];
            default:
                return memory.getOrDefault(f[2], 0);
        }
    }

    // ---- what is asked

    int answer(Result r, int variable) {
        Life l = r.lives.get(variable);
        if (l.remade) {
            return l.number;
        }
        return l.register >= 0 ? r.registers[l.register] : r.memory.getOrDefault(l.slot, 0);
    }

    long many(Result r, int what) {
        switch (what) {
            case 0:
                return nodes.size();
            case 1:
                return nodes.stream().filter(n -> !n.part).count();
            case 2:
                return statements();
            case 3:
                return r.points.size();
            case 4:
                return r.lives.size();
            case 5:
                return r.lives.values().stream().filter(l -> l.register < 0).count();
            case 6:
                return r.lives.values().stream().filter(l -> l.remade).count();
            case 7:
                return r.slots;
            case 8:
                return r.frame;
            case 9:
                return r.code.size();
            case 10:
                return r.code.stream().filter(o -> o.f[0] == 1).count();
            case 11:
                return r.code.stream().filter(o -> o.f[0] == 7 || o.f[0] == 8).count();
            case 12:
                return r.steps;
            case 13:
                return r.cycles;
            case 14:
                return r.stalls;
            default:
                long most = 0;
                for (int p = 0; p <= r.points.size(); p++) {
                    int point = p;
                    most = Math.max(most, r.lives.values().stream()
                            .filter(l -> l.first <= point && point <= l.last).count());
                }
                return most;
        }
    }

    int chosen(Result r, int point, int what) {
        Instruction i = r.points.get(point);
        switch (what) {
            case 0:
                return i.kind;
            case 1:
                return i.writes;
            case 5:
                return i.n;
            case 6:
                return i.block;
            case 7:
                return i.height;
            default:
                return what - 2 < i.reads.size() ? i.reads.get(what - 2) : -1;
        }
    }

    int ofValue(Result r, int value, int what) {
        Life l = r.lives.get(value);
        int[] all = {l.first, l.last, l.weight, l.register, l.slot, l.remade ? 1 : 0, l.crosses,
            l.writes + l.reads};
        return all[what];
    }

    int mapAt(Result r, int call, int what) {
        int point = r.calls.get(call);
        int[] all = {point, 0, 0, 0};
        for (Life l : r.lives.values()) {
            if (l.first < point && point < l.last) {
                all[1] += l.register >= 0 ? 1 << l.register : 0;
                all[2] += l.slot >= 0 ? 1 << l.slot : 0;
                all[3] += l.remade ? 1 : 0;
            }
        }
        return all[what];
    }

    long with(int registers, int kept, boolean two, int what) {
        Setting s = now.copy();
        s.registers = registers;
        s.kept = kept;
        s.two = two;
        return many(result(s, true), what);
    }

    long cyclesWith(int kind, int cycles) {
        Setting s = now.copy();
        s.latency[kind] = cycles;
        return result(s, true).cycles;
    }

    int enough() {
        for (int registers = 5; registers <= 11; registers++) {
            Setting s = now.copy();
            s.registers = registers;
            s.kept = now.kept & ((1 << s.s()) - 1);
            if (many(result(s, true), 5) == 0) {
                return registers;
            }
        }
        return -1;
    }

    long unordered() {
        return result(now, false).cycles - result(now, true).cycles;
    }

    long digest() {
        Result r = result(now, true);
        List<Long> all = new ArrayList<>();
        for (int what = 0; what < 16; what++) {
            all.add(many(r, what));
        }
        for (int v = 0; v < 8; v++) {
            all.add((long) meant(v));
        }
        for (int v = 0; v < 8; v++) {
            if ((out >> v & 1) == 1) {
                all.add((long) answer(r, v));
            }
        }
        for (int p = 0; p < r.points.size(); p++) {
            for (int what = 0; what < 8; what++) {
                all.add((long) chosen(r, p, what));
            }
        }
        for (int v : r.lives.keySet()) {
            all.add((long) v);
            for (int what = 0; what < 8; what++) {
                all.add((long) ofValue(r, v, what));
            }
        }
        for (int c = 0; c < r.calls.size(); c++) {
            for (int what = 0; what < 4; what++) {
                all.add((long) mapAt(r, c, what));
            }
        }
        for (Op op : r.code) {
            for (int what = 0; what < 6; what++) {
                all.add((long) op.f[what]);
            }
            all.add((long) op.begins);
        }
        all.add((long) enough());
        all.add(unordered());
        all.add(with(6, 4, true, 9));
        all.add(with(6, 4, true, 13));
        long d = 58132;
        for (long v : all) {
            d = d * 31 + v;
        }
        return d;
    }
}
