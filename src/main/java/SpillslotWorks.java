/**
 * A back end of a compiler: trees are covered by instructions at the least cost, put in order,
 * given registers or slots, made into code, and run.
 *
 * The words in capitals in the comments are those of the document's part 'Terms'.
 */
public final class SpillslotWorks {
    private static final int NONE = -1;

    private static final int VARIABLES = 8;
    private static final int BLOCKS = 4;
    private static final int LATENCY_KINDS = 8;
    private static final int MAX_NODES = 80;
    private static final int MAX_STATEMENTS = 24;
    private static final int MAX_LATENCY = 9;
    private static final int MAX_TIMES = 9;
    private static final int MAX_NUMBER = 999;
    private static final int MAX_SMALL = 99;
    private static final int MAX_OUT = 255;
    private static final int MIN_REGISTERS = 5;
    private static final int MAX_REGISTERS = 11;
    private static final int SCRATCHES = 3;
    private static final int FIRST_KEPT = 2;
    private static final int LOST = -77777;
    private static final long DIGEST_START = 58132L;

    // A NODE gives one instruction at most, and the ENTRY has one for each VARIABLE at most.
    private static final int MAX_POINTS = VARIABLES + MAX_NODES;
    private static final int MAX_VALUES = VARIABLES + MAX_NODES;
    private static final int READS = 3;
    private static final int OPERANDS = 4;
    // The longest: three LOADS, a MOVE, the operation, and a MOVE or a STORE.
    private static final int MAX_CODE = 6 * MAX_POINTS;

    // The kinds of NODES; ADD, SUB and MUL have the same numbers as the instructions.
    private static final int NODE_NUMBER = 0;
    private static final int NODE_USE = 1;
    private static final int NODE_CALL = 5;

    // The kinds of instructions.
    private static final int LI = 0;
    private static final int MOVE = 1;
    private static final int ADD = 2;
    private static final int SUB = 3;
    private static final int MUL = 4;
    private static final int ADDI = 5;
    private static final int FUSE = 6;
    private static final int LOAD = 7;
    private static final int STORE = 8;
    private static final int CALL = 9;
    private static final int[] LATENCY_KIND_OF = {0, 1, 2, 2, 3, 2, 4, 5, 6, 7};

    // What many() and with() are asked for, as far as other methods ask it too.
    private static final int MANY_FIRST_WITH = 3;
    private static final int MANY_CODE = 9;
    private static final int MANY_CYCLES = 13;
    private static final int MANY_LAST = 15;

    private final Program program;
    private final Meaning meaning;
    private final Machine machineNow;
    private final Machine machineThen;
    private final Plan planNow;
    private final Plan planThen;
    private final Works worksNow;
    private final Works worksThen;
    private boolean isBuilt;
    private boolean isMeant;

    public SpillslotWorks() {
        program = new Program();
        meaning = new Meaning(program);
        machineNow = new Machine();
        machineThen = new Machine();
        planNow = new Plan(program, machineNow);
        planThen = new Plan(program, machineThen);
        worksNow = new Works(program, machineNow);
        worksThen = new Works(program, machineThen);
    }

    // ---- the machine

    public int machine(int registers, int kept, int small, boolean isFused, boolean isTwo)
            throws IllegalArgumentException {
        if (!isMachine(registers, kept) || small < 0 || small > MAX_SMALL) {
            throw new IllegalArgumentException("no such machine");
        }
        int before = machineNow.registers;
        machineNow.registers = registers;
        machineNow.kept = kept;
        machineNow.small = small;
        machineNow.isFused = isFused;
        machineNow.isTwo = isTwo;
        forget();
        return before;
    }

    public int latency(int kind, int cycles)
            throws IndexOutOfBoundsException, IllegalArgumentException {
        if (!isBelow(kind, LATENCY_KINDS)) {
            throw new IndexOutOfBoundsException("no such kind");
        }
        if (cycles < 1 || cycles > MAX_LATENCY) {
            throw new IllegalArgumentException("no such latency");
        }
        int before = at(machineNow.latencies, kind);
        put(machineNow.latencies, kind, cycles);
        forget();
        return before;
    }

    // ---- the program

    public int node(int kind, int a, int b)
            throws IllegalArgumentException, IllegalStateException {
        if (!program.canBeNode(kind, a, b)) {
            throw new IllegalArgumentException("no such node");
        }
        if (program.nodeCount >= MAX_NODES) {
            throw new IllegalStateException("no room for a node");
        }
        forget();
        return program.addNode(kind, a, b);
    }

    public int statement(int block, int variable, int node)
            throws IndexOutOfBoundsException, IllegalArgumentException, IllegalStateException {
        if (!isBelow(block, BLOCKS) || !isBelow(variable, VARIABLES)
                || !isBelow(node, program.nodeCount)) {
            throw new IndexOutOfBoundsException("no such block, variable or node");
        }
        if (!program.isLoose(node)) {
            throw new IllegalArgumentException("the node is part of something");
        }
        if (program.statementCount >= MAX_STATEMENTS) {
            throw new IllegalStateException("no room for a statement");
        }
        forget();
        return program.addStatement(block, variable, node);
    }

    public int take(int block) throws IndexOutOfBoundsException, IllegalStateException {
        if (!isBelow(block, BLOCKS)) {
            throw new IndexOutOfBoundsException("no such block");
        }
        if (program.statementsIn(block) <= 0) {
            throw new IllegalStateException("the block has no statement");
        }
        forget();
        return program.removeLast(block);
    }

    public int times(int block, int times)
            throws IndexOutOfBoundsException, IllegalArgumentException {
        if (!isBelow(block, BLOCKS)) {
            throw new IndexOutOfBoundsException("no such block");
        }
        if (times < 1 || times > MAX_TIMES) {
            throw new IllegalArgumentException("no such times");
        }
        int before = program.roundsOf(block);
        put(program.rounds, block, times);
        forget();
        return before;
    }

    public int out(int out) throws IllegalArgumentException {
        if (out < 0 || out > MAX_OUT) {
            throw new IllegalArgumentException("no such set of variables");
        }
        int before = program.asked;
        program.asked = out;
        forget();
        return before;
    }

    public int meant(int variable) throws IndexOutOfBoundsException {
        if (!isBelow(variable, VARIABLES)) {
            throw new IndexOutOfBoundsException("no such variable");
        }
        return at(meantNow().variables, variable);
    }

    // ---- instructions and lives

    public int chosen(int point, int what)
            throws IndexOutOfBoundsException, IllegalArgumentException {
        Works works = builtNow();
        if (!isBelow(point, planNow.lines.count)) {
            throw new IndexOutOfBoundsException("no such point");
        }
        if (!isBelow(what, 8)) {
            throw new IllegalArgumentException("no such question");
        }
        return works.tellLine(planNow, point, what);
    }

    public int ofValue(int value, int what)
            throws IndexOutOfBoundsException, IllegalArgumentException {
        Works works = builtNow();
        if (!planNow.lives.isLiving(value)) {
            throw new IndexOutOfBoundsException("no such value");
        }
        if (!isBelow(what, 8)) {
            throw new IllegalArgumentException("no such question");
        }
        return works.tellValue(planNow, value, what);
    }

    public int mapAt(int call, int what)
            throws IndexOutOfBoundsException, IllegalArgumentException {
        Works works = builtNow();
        if (!isBelow(call, planNow.lives.callCount)) {
            throw new IndexOutOfBoundsException("no such call");
        }
        if (!isBelow(what, 4)) {
            throw new IllegalArgumentException("no such question");
        }
        return works.tellCall(planNow, call, what);
    }

    public int cost(int node) throws IndexOutOfBoundsException {
        if (!isBelow(node, program.nodeCount)) {
            throw new IndexOutOfBoundsException("no such node");
        }
        builtNow();
        return at(planNow.choice.costs, node);
    }

    // ---- code and runs

    public int code(int k, int what)
            throws IndexOutOfBoundsException, IllegalArgumentException {
        Works works = builtNow();
        if (!isBelow(k, works.code.length)) {
            throw new IndexOutOfBoundsException("no such place");
        }
        if (!isBelow(what, 6)) {
            throw new IllegalArgumentException("no such question");
        }
        return works.code.tellPlace(k, what);
    }

    public int begins(int k) throws IndexOutOfBoundsException {
        Works works = builtNow();
        if (!isBelow(k, works.code.length)) {
            throw new IndexOutOfBoundsException("no such place");
        }
        return at(works.run.begins, k);
    }

    public int answer(int variable) throws IndexOutOfBoundsException {
        if (!isBelow(variable, VARIABLES) || !hasBit(program.asked, variable)) {
            throw new IndexOutOfBoundsException("no such variable in out");
        }
        return builtNow().tellAnswer(planNow, variable);
    }

    public int many(int what) throws IllegalArgumentException {
        if (!isBelow(what, MANY_LAST + 1)) {
            throw new IllegalArgumentException("no such question");
        }
        return builtNow().tellMany(planNow, what);
    }

    public double meanStall() {
        Run run = builtNow().run;
        return run.steps > 0 ? (double) run.stalls / run.steps : 0.0;
    }

    // ---- what would be (nothing is changed)

    public int with(int registers, int kept, boolean isTwo, int what)
            throws IllegalArgumentException {
        if (!isMachine(registers, kept) || what < MANY_FIRST_WITH || what > MANY_LAST) {
            throw new IllegalArgumentException("no such machine or question");
        }
        builtNow();
        return builtWith(registers, kept, isTwo).tellMany(planNow, what);
    }

    public int cyclesWith(int kind, int cycles)
            throws IndexOutOfBoundsException, IllegalArgumentException {
        if (!isBelow(kind, LATENCY_KINDS)) {
            throw new IndexOutOfBoundsException("no such kind");
        }
        if (cycles < 1 || cycles > MAX_LATENCY) {
            throw new IllegalArgumentException("no such latency");
        }
        machineThen.beLike(machineNow);
        put(machineThen.latencies, kind, cycles);
        planThen.build(true);
        worksThen.build(planThen);
        return worksThen.run.cycles;
    }

    public int enough() {
        builtNow();
        return fewestRegisters();
    }

    public int unordered() {
        builtNow();
        return cyclesUnordered() - worksNow.run.cycles;
    }

    public long digest() {
        Works works = builtNow();
        long d = DIGEST_START;
        for (int what = 0; what <= MANY_LAST; what++) {
            d = mix(d, works.tellMany(planNow, what));
        }
        d = mixVariables(d, works);
        d = mixLines(d, works);
        d = mixValues(d, works);
        d = mixCalls(d, works);
        d = mixCode(d, works);
        d = mix(d, fewestRegisters());
        d = mix(d, cyclesUnordered() - works.run.cycles);
        Works other = builtWith(6, 4, true);
        d = mix(d, other.tellMany(planNow, MANY_CODE));
        return mix(d, other.tellMany(planNow, MANY_CYCLES));
    }

    // ---- what stands, and what would stand

    private void forget() {
        isBuilt = false;
        isMeant = false;
    }

    private Works builtNow() {
        if (!isBuilt) {
            planNow.build(true);
            worksNow.build(planNow);
            isBuilt = true;
        }
        return worksNow;
    }

    private Meaning meantNow() {
        if (!isMeant) {
            meaning.work();
            isMeant = true;
        }
        return meaning;
    }

    // The plan stays: neither REGISTERS nor TWO have a say in choosing, order or lives.
    private Works builtWith(int registers, int kept, boolean isTwo) {
        machineThen.beLike(machineNow);
        machineThen.registers = registers;
        machineThen.kept = kept;
        machineThen.isTwo = isTwo;
        worksThen.build(planNow);
        return worksThen;
    }

    private int fewestRegisters() {
        machineThen.beLike(machineNow);
        for (int registers = MIN_REGISTERS; registers <= MAX_REGISTERS; registers++) {
            machineThen.registers = registers;
            machineThen.kept = machineNow.kept & (bit(machineThen.scratch()) - 1);
            worksThen.homes.give(planNow.lines, planNow.lives);
            if (worksThen.homes.spilledCount == 0) {
                return registers;
            }
        }
        return NONE;
    }

    private int cyclesUnordered() {
        machineThen.beLike(machineNow);
        planThen.build(false);
        worksThen.build(planThen);
        return worksThen.run.cycles;
    }

    // ---- the parts of the digest

    private long mixVariables(long start, Works works) {
        long d = start;
        Meaning all = meantNow();
        for (int variable = 0; variable < VARIABLES; variable++) {
            d = mix(d, at(all.variables, variable));
        }
        for (int variable = 0; variable < VARIABLES; variable++) {
            if (hasBit(program.asked, variable)) {
                d = mix(d, works.tellAnswer(planNow, variable));
            }
        }
        return d;
    }

    private long mixLines(long start, Works works) {
        long d = start;
        for (int point = 0; point < planNow.lines.count; point++) {
            for (int what = 0; what < 8; what++) {
                d = mix(d, works.tellLine(planNow, point, what));
            }
        }
        return d;
    }

    private long mixValues(long start, Works works) {
        long d = start;
        for (int value = 0; value < planNow.lives.valueCount; value++) {
            if (planNow.lives.isLiving(value)) {
                d = mix(d, value);
                for (int what = 0; what < 8; what++) {
                    d = mix(d, works.tellValue(planNow, value, what));
                }
            }
        }
        return d;
    }

    private long mixCalls(long start, Works works) {
        long d = start;
        for (int call = 0; call < planNow.lives.callCount; call++) {
            for (int what = 0; what < 4; what++) {
                d = mix(d, works.tellCall(planNow, call, what));
            }
        }
        return d;
    }

    private static long mixCode(long start, Works works) {
        long d = start;
        for (int k = 0; k < works.code.length; k++) {
            for (int what = 0; what < 6; what++) {
                d = mix(d, works.code.tellPlace(k, what));
            }
            d = mix(d, at(works.run.begins, k));
        }
        return d;
    }

    private static long mix(long d, long v) {
        return d * 31L + v;
    }

    // ---- small helpers

    private static boolean isMachine(int registers, int kept) {
        if (registers < MIN_REGISTERS || registers > MAX_REGISTERS || kept < 0) {
            return false;
        }
        int canBeKept = bit(registers - SCRATCHES) - bit(FIRST_KEPT);
        return (kept & ~canBeKept) == 0;
    }

    private static boolean isBelow(int number, int limit) {
        return number >= 0 && number < limit;
    }

    private static int bit(int k) {
        return k >= 0 && k < 32 ? 1 << k : 0;
    }

    private static boolean hasBit(int set, int k) {
        return k >= 0 && k < 32 && (set >> k & 1) == 1;
    }

    // Rows are read and written by these two, so that no index goes unlooked at.
    private static int at(int[] row, int index) {
        return index >= 0 && index < row.length ? row[index] : NONE;
    }

    private static void put(int[] row, int index, int number) {
        if (index >= 0 && index < row.length) {
            row[index] = number;
        }
    }

    private static void fill(int[] row, int number) {
        for (int i = 0; i < row.length; i++) {
            row[i] = number;
        }
    }

    /** THE MACHINE (Terms 1). */
    private static final class Machine {
        int registers;
        int kept;
        int small;
        boolean isFused;
        boolean isTwo;
        final int[] latencies;

        Machine() {
            registers = 8;
            kept = 28;
            small = 15;
            isFused = true;
            isTwo = false;
            latencies = new int[] {1, 1, 1, 3, 3, 2, 1, 5};
        }

        void beLike(Machine other) {
            registers = other.registers;
            kept = other.kept;
            small = other.small;
            isFused = other.isFused;
            isTwo = other.isTwo;
            for (int kind = 0; kind < LATENCY_KINDS; kind++) {
                put(latencies, kind, at(other.latencies, kind));
            }
        }

        int scratch() {
            return registers - SCRATCHES;
        }

        int cyclesOf(int instruction) {
            return at(latencies, at(LATENCY_KIND_OF, instruction));
        }
    }

    /** THE PROGRAM (Terms 2): NODES, STATEMENTS by BLOCKS, TIMES and OUT. */
    private static final class Program {
        int nodeCount;
        int statementCount;
        int asked;
        final int[] rounds;
        final int[] kinds;
        final int[] firstParts;
        final int[] secondParts;
        // 1 for a NODE that is part of something, otherwise 0.
        private final int[] isPart;
        private final int[] counts;
        private final int[] variables;
        private final int[] roots;

        Program() {
            asked = 1;
            rounds = new int[] {1, 1, 1, 1};
            kinds = new int[MAX_NODES];
            firstParts = new int[MAX_NODES];
            secondParts = new int[MAX_NODES];
            isPart = new int[MAX_NODES];
            counts = new int[BLOCKS];
            variables = new int[BLOCKS * MAX_STATEMENTS];
            roots = new int[BLOCKS * MAX_STATEMENTS];
        }

        boolean canBeNode(int kind, int a, int b) {
            if (kind == NODE_NUMBER) {
                return a >= -MAX_NUMBER && a <= MAX_NUMBER && b == 0;
            }
            if (kind == NODE_USE) {
                return isBelow(a, VARIABLES) && b == 0;
            }
            return kind >= ADD && kind <= NODE_CALL && isLoose(a) && isLoose(b) && a != b;
        }

        boolean isLoose(int node) {
            return isBelow(node, nodeCount) && at(isPart, node) == 0;
        }

        int addNode(int kind, int a, int b) {
            int node = nodeCount;
            put(kinds, node, kind);
            put(firstParts, node, a);
            put(secondParts, node, b);
            put(isPart, node, 0);
            if (kind >= ADD) {
                put(isPart, a, 1);
                put(isPart, b, 1);
            }
            nodeCount++;
            return node;
        }

        int addStatement(int block, int variable, int node) {
            int count = statementsIn(block);
            put(variables, placeOf(block, count), variable);
            put(roots, placeOf(block, count), node);
            put(isPart, node, 1);
            put(counts, block, count + 1);
            statementCount++;
            return count + 1;
        }

        int removeLast(int block) {
            int count = statementsIn(block) - 1;
            int node = rootOf(block, count);
            put(isPart, node, 0);
            put(counts, block, count);
            statementCount--;
            return node;
        }

        int looseCount() {
            int loose = 0;
            for (int node = 0; node < nodeCount; node++) {
                if (isLoose(node)) {
                    loose++;
                }
            }
            return loose;
        }

        int statementsIn(int block) {
            return at(counts, block);
        }

        int variableOf(int block, int k) {
            return at(variables, placeOf(block, k));
        }

        int rootOf(int block, int k) {
            return at(roots, placeOf(block, k));
        }

        // The ENTRY is no BLOCK, and is done once.
        int roundsOf(int block) {
            return block == NONE ? 1 : at(rounds, block);
        }

        private static int placeOf(int block, int k) {
            return block * MAX_STATEMENTS + k;
        }
    }

    /** What the VARIABLES are at the end, by the trees alone. */
    private static final class Meaning {
        final int[] variables;
        private final int[] nodes;
        private final Program program;

        Meaning(Program program) {
            this.program = program;
            variables = new int[VARIABLES];
            nodes = new int[MAX_NODES];
        }

        void work() {
            fill(variables, 0);
            for (int block = 0; block < BLOCKS; block++) {
                int rounds = program.roundsOf(block);
                for (int round = 0; round < rounds; round++) {
                    workBlock(block);
                }
            }
        }

        private void workBlock(int block) {
            int count = program.statementsIn(block);
            for (int k = 0; k < count; k++) {
                int root = program.rootOf(block, k);
                // Parts have smaller numbers, so each is known ahead of what it is part of.
                for (int node = 0; node <= root; node++) {
                    put(nodes, node, valueOf(node));
                }
                put(variables, program.variableOf(block, k), at(nodes, root));
            }
        }

        private int valueOf(int node) {
            int a = at(program.firstParts, node);
            int b = at(program.secondParts, node);
            switch (at(program.kinds, node)) {
                case NODE_NUMBER:
                    return a;
                case NODE_USE:
                    return at(variables, a);
                case ADD:
                    return at(nodes, a) + at(nodes, b);
                case SUB:
                    return at(nodes, a) - at(nodes, b);
                case MUL:
                    return at(nodes, a) * at(nodes, b);
                default:
                    return 3 * at(nodes, a) + 2 * at(nodes, b) + 1;
            }
        }
    }

    /** Instructions of VALUES, one behind the other. */
    private static final class Instructions {
        int count;
        private final int[] kinds;
        private final int[] writes;
        private final int[] reads;
        private final int[] numbers;
        private final int[] blocks;
        private final int[] heights;

        Instructions() {
            kinds = new int[MAX_POINTS];
            writes = new int[MAX_POINTS];
            reads = new int[READS * MAX_POINTS];
            numbers = new int[MAX_POINTS];
            blocks = new int[MAX_POINTS];
            heights = new int[MAX_POINTS];
        }

        void clear() {
            count = 0;
        }

        // It has no number; setReads() must follow.
        void add(int kind, int value, int block) {
            if (count >= MAX_POINTS) {
                return;
            }
            put(kinds, count, kind);
            put(writes, count, value);
            put(numbers, count, 0);
            put(blocks, count, block);
            put(heights, count, 0);
            count++;
        }

        void setReads(int x, int y, int z) {
            int place = READS * (count - 1);
            put(reads, place, x);
            put(reads, place + 1, y);
            put(reads, place + 2, z);
        }

        void setNumber(int number) {
            put(numbers, count - 1, number);
        }

        void setHeight(int point, int height) {
            put(heights, point, height);
        }

        void addCopy(Instructions other, int point) {
            add(other.kindOf(point), other.writtenBy(point), other.blockOf(point));
            setReads(other.readBy(point, 0), other.readBy(point, 1), other.readBy(point, 2));
            setNumber(other.numberOf(point));
            setHeight(count - 1, other.heightOf(point));
        }

        int kindOf(int point) {
            return at(kinds, point);
        }

        int writtenBy(int point) {
            return at(writes, point);
        }

        int readBy(int point, int k) {
            return at(reads, READS * point + k);
        }

        boolean isReading(int point, int value) {
            int place = READS * point;
            return at(reads, place) == value || at(reads, place + 1) == value
                    || at(reads, place + 2) == value;
        }

        int numberOf(int point) {
            return at(numbers, point);
        }

        int blockOf(int point) {
            return at(blocks, point);
        }

        int heightOf(int point) {
            return at(heights, point);
        }
    }

    /** CHOOSING (Terms 3): the covers of all NODES, and the instructions of the STATEMENTS. */
    private static final class Choice {
        final int[] costs;
        private final Program program;
        private final Machine machine;
        // The cover of each NODE: its instruction, the number in it, and the NODES that it is
        // of, as it reads them and as their instructions come.
        private final int[] kinds;
        private final int[] numbers;
        private final int[] reads;
        private final int[] parts;
        private final int[] values;
        private final int[] pending;
        private final int[] sequence;
        private int pendingCount;
        private int nextValue;

        Choice(Program program, Machine machine) {
            this.program = program;
            this.machine = machine;
            costs = new int[MAX_NODES];
            kinds = new int[MAX_NODES];
            numbers = new int[MAX_NODES];
            reads = new int[READS * MAX_NODES];
            parts = new int[READS * MAX_NODES];
            values = new int[MAX_NODES];
            pending = new int[MAX_NODES];
            sequence = new int[MAX_NODES];
        }

        void coverAll() {
            nextValue = VARIABLES;
            for (int node = 0; node < program.nodeCount; node++) {
                int kind = at(program.kinds, node);
                put(numbers, node, 0);
                if (kind < ADD) {
                    coverLeaf(node, kind);
                } else {
                    coverPlain(node, kind == NODE_CALL ? CALL : kind);
                    coverSmall(node, kind);
                    coverFused(node, kind);
                }
            }
        }

        private void coverLeaf(int node, int kind) {
            setNodes(reads, node, NONE, NONE, NONE);
            setNodes(parts, node, NONE, NONE, NONE);
            if (kind == NODE_USE) {
                put(kinds, node, MOVE);
                put(costs, node, 0);
            } else {
                put(kinds, node, LI);
                put(costs, node, machine.cyclesOf(LI));
                put(numbers, node, at(program.firstParts, node));
            }
        }

        private void coverPlain(int node, int instruction) {
            int a = at(program.firstParts, node);
            int b = at(program.secondParts, node);
            put(kinds, node, instruction);
            put(costs, node, machine.cyclesOf(instruction) + at(costs, a) + at(costs, b));
            setNodes(reads, node, a, b, NONE);
            setNodes(parts, node, a, b, NONE);
        }

        // This cover and the next one must cost less than those that are told ahead of them.
        private void coverSmall(int node, int kind) {
            int a = at(program.firstParts, node);
            int b = at(program.secondParts, node);
            boolean isOfFirst = (kind == ADD || kind == SUB) && isSmall(b);
            if (!isOfFirst && !(kind == ADD && isSmall(a))) {
                return;
            }
            int read = isOfFirst ? a : b;
            int price = machine.cyclesOf(ADDI) + at(costs, read);
            if (price < at(costs, node)) {
                int number = at(program.firstParts, isOfFirst ? b : a);
                put(kinds, node, ADDI);
                put(costs, node, price);
                put(numbers, node, kind == SUB ? -number : number);
                setNodes(reads, node, read, NONE, NONE);
                setNodes(parts, node, read, NONE, NONE);
            }
        }

        private boolean isSmall(int node) {
            int number = at(program.firstParts, node);
            return at(program.kinds, node) == NODE_NUMBER
                    && number >= -machine.small && number <= machine.small;
        }

        private void coverFused(int node, int kind) {
            int a = at(program.firstParts, node);
            int b = at(program.secondParts, node);
            boolean isFirst = at(program.kinds, a) == MUL;
            if (!machine.isFused || kind != ADD || !(isFirst || at(program.kinds, b) == MUL)) {
                return;
            }
            int x = at(program.firstParts, isFirst ? a : b);
            int y = at(program.secondParts, isFirst ? a : b);
            int z = isFirst ? b : a;
            int price = machine.cyclesOf(FUSE) + at(costs, x) + at(costs, y) + at(costs, z);
            if (price < at(costs, node)) {
                put(kinds, node, FUSE);
                put(costs, node, price);
                put(numbers, node, 0);
                setNodes(reads, node, x, y, z);
                if (isFirst) {
                    setNodes(parts, node, x, y, z);
                } else {
                    setNodes(parts, node, z, x, y);
                }
            }
        }

        private static void setNodes(int[] row, int node, int first, int second, int third) {
            put(row, READS * node, first);
            put(row, READS * node + 1, second);
            put(row, READS * node + 2, third);
        }

        void chooseStatement(Instructions raw, int block, int k) {
            int count = gather(program.rootOf(block, k));
            for (int i = count - 1; i > 0; i--) {
                int node = at(sequence, i);
                if (at(program.kinds, node) == NODE_USE) {
                    put(values, node, at(program.firstParts, node));
                } else {
                    put(values, node, nextValue);
                    emit(raw, node, nextValue, block);
                    nextValue++;
                }
            }
            emit(raw, at(sequence, 0), program.variableOf(block, k), block);
        }

        // Each NODE ahead of its parts, and its last part first: read from behind, this is
        // the order of the instructions.
        private int gather(int root) {
            int count = 0;
            pendingCount = 0;
            push(root);
            while (pendingCount > 0 && count < MAX_NODES) {
                pendingCount--;
                int node = at(pending, pendingCount);
                put(sequence, count, node);
                count++;
                for (int k = 0; k < READS; k++) {
                    push(at(parts, READS * node + k));
                }
            }
            return count;
        }

        private void push(int node) {
            if (node != NONE) {
                put(pending, pendingCount, node);
                pendingCount++;
            }
        }

        private void emit(Instructions raw, int node, int value, int block) {
            int kind = at(kinds, node);
            raw.add(kind, value, block);
            raw.setNumber(at(numbers, node));
            if (kind == MOVE) {
                raw.setReads(at(program.firstParts, node), NONE, NONE);
            } else {
                raw.setReads(valueRead(node, 0), valueRead(node, 1), valueRead(node, 2));
            }
        }

        // A NODE that is none has no VALUE either: both are NONE.
        private int valueRead(int node, int k) {
            return at(values, at(reads, READS * node + k));
        }
    }

    /** The instructions as they were chosen, then in their ORDER (Terms 4), with their lives. */
    private static final class Plan {
        final Choice choice;
        final Instructions lines;
        final Lives lives;
        // The first POINT of each BLOCK, and END.
        final int[] starts;
        private final Program program;
        private final Machine machine;
        private final Instructions raw;
        private final int[] rawStarts;
        // How many of those that an instruction needs are not placed yet; NONE once it is placed.
        private final int[] missing;

        Plan(Program program, Machine machine) {
            this.program = program;
            this.machine = machine;
            choice = new Choice(program, machine);
            lines = new Instructions();
            lives = new Lives(program);
            starts = new int[BLOCKS + 1];
            raw = new Instructions();
            rawStarts = new int[BLOCKS + 1];
            missing = new int[MAX_POINTS];
        }

        void build(boolean isOrdered) {
            choice.coverAll();
            chooseAll();
            lines.clear();
            addEntry();
            for (int block = 0; block < BLOCKS; block++) {
                int from = at(rawStarts, block);
                int to = at(rawStarts, block + 1);
                put(starts, block, lines.count);
                measureHeights(from, to);
                if (isOrdered) {
                    placeByHeight(from, to);
                } else {
                    placeAsChosen(from, to);
                }
            }
            put(starts, BLOCKS, lines.count);
            lives.measure(lines, starts);
        }

        private void chooseAll() {
            raw.clear();
            for (int block = 0; block < BLOCKS; block++) {
                put(rawStarts, block, raw.count);
                int count = program.statementsIn(block);
                for (int k = 0; k < count; k++) {
                    choice.chooseStatement(raw, block, k);
                }
            }
            put(rawStarts, BLOCKS, raw.count);
        }

        private void addEntry() {
            int early = earlyVariables();
            for (int variable = 0; variable < VARIABLES; variable++) {
                if (hasBit(early, variable)) {
                    lines.add(LI, variable, NONE);
                    lines.setReads(NONE, NONE, NONE);
                }
            }
        }

        private int earlyVariables() {
            int early = 0;
            int written = 0;
            for (int i = 0; i < raw.count; i++) {
                for (int k = 0; k < READS; k++) {
                    early |= variableBit(raw.readBy(i, k)) & ~written;
                }
                written |= variableBit(raw.writtenBy(i));
            }
            return early | (program.asked & ~written);
        }

        private static int variableBit(int value) {
            return isBelow(value, VARIABLES) ? bit(value) : 0;
        }

        private boolean isNeeding(int later, int earlier) {
            return raw.isReading(later, raw.writtenBy(earlier))
                    || raw.isReading(earlier, raw.writtenBy(later))
                    || raw.writtenBy(later) == raw.writtenBy(earlier)
                    || (raw.kindOf(later) == CALL && raw.kindOf(earlier) == CALL);
        }

        private void measureHeights(int from, int to) {
            for (int i = to - 1; i >= from; i--) {
                int above = 0;
                for (int later = i + 1; later < to; later++) {
                    if (raw.heightOf(later) > above && isNeeding(later, i)) {
                        above = raw.heightOf(later);
                    }
                }
                raw.setHeight(i, machine.cyclesOf(raw.kindOf(i)) + above);
            }
        }

        private void placeAsChosen(int from, int to) {
            for (int i = from; i < to; i++) {
                lines.addCopy(raw, i);
            }
        }

        private void placeByHeight(int from, int to) {
            countMissing(from, to);
            for (int placed = from; placed < to; placed++) {
                int best = highestReady(from, to);
                if (best == NONE) {
                    return;
                }
                lines.addCopy(raw, best);
                put(missing, best, NONE);
                for (int later = best + 1; later < to; later++) {
                    if (isNeeding(later, best)) {
                        put(missing, later, at(missing, later) - 1);
                    }
                }
            }
        }

        private void countMissing(int from, int to) {
            for (int later = from; later < to; later++) {
                int needed = 0;
                for (int i = from; i < later; i++) {
                    if (isNeeding(later, i)) {
                        needed++;
                    }
                }
                put(missing, later, needed);
            }
        }

        private int highestReady(int from, int to) {
            int best = NONE;
            for (int i = from; i < to; i++) {
                if (at(missing, i) == 0
                        && (best == NONE || raw.heightOf(i) > raw.heightOf(best))) {
                    best = i;
                }
            }
            return best;
        }
    }

    /** LIVES (Terms 5). */
    private static final class Lives {
        // All VALUES that are in instructions have numbers below this one.
        int valueCount;
        int livingCount;
        int callCount;
        private final Program program;
        private final int[] firsts;
        private final int[] lasts;
        private final int[] sums;
        final int[] weights;
        private final int[] writes;
        private final int[] reads;
        private final int[] crossed;
        private final int[] callPoints;

        Lives(Program program) {
            this.program = program;
            firsts = new int[MAX_VALUES];
            lasts = new int[MAX_VALUES];
            sums = new int[MAX_VALUES];
            weights = new int[MAX_VALUES];
            writes = new int[MAX_VALUES];
            reads = new int[MAX_VALUES];
            crossed = new int[MAX_VALUES];
            callPoints = new int[MAX_POINTS];
        }

        void measure(Instructions lines, int[] starts) {
            valueCount = 0;
            livingCount = 0;
            callCount = 0;
            fill(firsts, NONE);
            fill(sums, 0);
            fill(writes, 0);
            fill(reads, 0);
            for (int point = 0; point < lines.count; point++) {
                touch(lines, point);
            }
            for (int value = 0; value < valueCount; value++) {
                if (isLiving(value)) {
                    livingCount++;
                    put(lasts, value, endOf(value, lines, starts));
                    put(weights, value, weigh(value));
                    put(crossed, value, countCrossed(value));
                }
            }
        }

        private void touch(Instructions lines, int point) {
            int times = program.roundsOf(lines.blockOf(point));
            int value = lines.writtenBy(point);
            if (at(firsts, value) == NONE) {
                put(firsts, value, point);
            }
            put(writes, value, at(writes, value) + 1);
            touchValue(value, point, times);
            for (int k = 0; k < READS; k++) {
                int read = lines.readBy(point, k);
                if (read != NONE) {
                    put(reads, read, at(reads, read) + 1);
                    touchValue(read, point, times);
                }
            }
            if (lines.kindOf(point) == CALL) {
                put(callPoints, callCount, point);
                callCount++;
            }
        }

        private void touchValue(int value, int point, int times) {
            valueCount = Math.max(valueCount, value + 1);
            put(lasts, value, point);
            put(sums, value, at(sums, value) + times);
        }

        private int endOf(int value, Instructions lines, int[] starts) {
            if (value < VARIABLES && hasBit(program.asked, value)) {
                return lines.count;
            }
            int last = lastOf(value);
            int block = lines.blockOf(last);
            boolean isCarried = block != NONE && program.roundsOf(block) > 1
                    && firstOf(value) < at(starts, block);
            return isCarried ? at(starts, block + 1) : last;
        }

        private int weigh(int value) {
            int points = lastOf(value) - firstOf(value) + 1;
            return points > 0 ? 100 * at(sums, value) / points : 0;
        }

        private int countCrossed(int value) {
            int calls = 0;
            for (int call = 0; call < callCount; call++) {
                if (isCrossing(value, at(callPoints, call))) {
                    calls++;
                }
            }
            return calls;
        }

        boolean isLiving(int value) {
            return isBelow(value, MAX_VALUES) && at(firsts, value) != NONE;
        }

        boolean isCrossing(int value, int point) {
            return isLiving(value) && firstOf(value) < point && point < lastOf(value);
        }

        int firstOf(int value) {
            return at(firsts, value);
        }

        int lastOf(int value) {
            return at(lasts, value);
        }

        int weightOf(int value) {
            return at(weights, value);
        }

        int crossedBy(int value) {
            return at(crossed, value);
        }

        int writesOf(int value) {
            return at(writes, value);
        }

        int touchesOf(int value) {
            return at(writes, value) + at(reads, value);
        }

        int pointOfCall(int call) {
            return at(callPoints, call);
        }

        int mostAtOnce(int end) {
            int most = 0;
            for (int point = 0; point <= end; point++) {
                int living = 0;
                for (int value = 0; value < valueCount; value++) {
                    if (isLiving(value) && firstOf(value) <= point && point <= lastOf(value)) {
                        living++;
                    }
                }
                most = Math.max(most, living);
            }
            return most;
        }
    }

    /** REGISTERS, SLOTS and the FRAME (Terms 6): where each VALUE is. */
    private static final class Homes {
        int spilledCount;
        int remadeCount;
        int slotCount;
        int frame;
        private final Machine machine;
        private final int[] registers;
        final int[] slots;
        // 1 for a VALUE that is REMADE, otherwise 0, and the number from which it is.
        final int[] isMadeAnew;
        final int[] numbers;
        private final int[] isSlotTaken;

        Homes(Machine machine) {
            this.machine = machine;
            registers = new int[MAX_VALUES];
            slots = new int[MAX_VALUES];
            isMadeAnew = new int[MAX_VALUES];
            numbers = new int[MAX_VALUES];
            isSlotTaken = new int[MAX_VALUES];
        }

        void give(Instructions lines, Lives lives) {
            spilledCount = 0;
            remadeCount = 0;
            slotCount = 0;
            fill(registers, NONE);
            fill(slots, NONE);
            fill(isMadeAnew, 0);
            // One POINT writes one VALUE, so LIVES come by first POINTS as POINTS do.
            for (int point = 0; point < lines.count; point++) {
                if (isBirth(lines, lives, point)) {
                    giveRegister(lines, lives, point);
                }
            }
            for (int point = 0; point < lines.count; point++) {
                if (isBirth(lines, lives, point) && isSpilled(lines.writtenBy(point))) {
                    spilledCount++;
                    giveSlot(lines, lives, point);
                }
            }
            frame = slotCount + keptInUse(lives.valueCount);
            frame += frame & 1;
        }

        private static boolean isBirth(Instructions lines, Lives lives, int point) {
            return lives.firstOf(lines.writtenBy(point)) == point;
        }

        private void giveRegister(Instructions lines, Lives lives, int point) {
            int value = lines.writtenBy(point);
            int allowed = lives.crossedBy(value) > 0 ? machine.kept : bit(machine.scratch()) - 1;
            int free = allowed & ~takenBehind(lives, point);
            if (free == 0) {
                spillOne(lives, value, allowed);
                return;
            }
            int liked = likedRegister(lines, point);
            put(registers, value, hasBit(free, liked) ? liked : smallestOf(free));
        }

        private int takenBehind(Lives lives, int point) {
            int taken = 0;
            for (int value = 0; value < lives.valueCount; value++) {
                int register = at(registers, value);
                if (register != NONE && lives.lastOf(value) > point) {
                    taken |= bit(register);
                }
            }
            return taken;
        }

        private int likedRegister(Instructions lines, int point) {
            int kind = lines.kindOf(point);
            boolean isByTwo = machine.isTwo && (kind == ADD || kind == SUB || kind == MUL);
            return kind == MOVE || isByTwo ? registerOf(lines.readBy(point, 0)) : NONE;
        }

        private static int smallestOf(int set) {
            int k = 0;
            while (k < MAX_REGISTERS && !hasBit(set, k)) {
                k++;
            }
            return k;
        }

        private void spillOne(Lives lives, int value, int allowed) {
            int point = lives.firstOf(value);
            int worst = value;
            for (int other = 0; other < lives.valueCount; other++) {
                if (hasBit(allowed, at(registers, other)) && lives.lastOf(other) > point
                        && isLighter(lives, other, worst)) {
                    worst = other;
                }
            }
            if (worst != value) {
                put(registers, value, at(registers, worst));
                put(registers, worst, NONE);
            }
        }

        private static boolean isLighter(Lives lives, int value, int other) {
            int difference = at(lives.weights, value) - at(lives.weights, other);
            return difference < 0 || (difference == 0 && value > other);
        }

        private void giveSlot(Instructions lines, Lives lives, int point) {
            int value = lines.writtenBy(point);
            if (lives.writesOf(value) == 1 && lines.kindOf(point) == LI) {
                put(isMadeAnew, value, 1);
                put(numbers, value, lines.numberOf(point));
                remadeCount++;
                return;
            }
            int slot = firstSlotFree(lives, point);
            put(slots, value, slot);
            slotCount = Math.max(slotCount, slot + 1);
        }

        // Those that have SLOTS already begin ahead of the POINT: they have one in common
        // with the LIFE that begins there, if they don't end ahead of it.
        private int firstSlotFree(Lives lives, int point) {
            fill(isSlotTaken, 0);
            for (int value = 0; value < lives.valueCount; value++) {
                if (at(slots, value) != NONE && lives.lastOf(value) >= point) {
                    put(isSlotTaken, at(slots, value), 1);
                }
            }
            int slot = 0;
            while (slot < MAX_VALUES && at(isSlotTaken, slot) == 1) {
                slot++;
            }
            return slot;
        }

        private int keptInUse(int valueCount) {
            int used = 0;
            for (int value = 0; value < valueCount; value++) {
                used |= bit(at(registers, value));
            }
            return Integer.bitCount(used & machine.kept);
        }

        boolean isSpilled(int value) {
            return at(registers, value) == NONE;
        }

        int registerOf(int value) {
            return at(registers, value);
        }

        int slotOf(int value) {
            return at(slots, value);
        }

        boolean isRemade(int value) {
            return at(isMadeAnew, value) == 1;
        }

        int numberOf(int value) {
            return at(numbers, value);
        }
    }

    /** CODE (Terms 7). */
    private static final class Code {
        int length;
        private final Machine machine;
        private final int[] kinds;
        private final int[] operands;
        private final int[] points;
        // The first place of each POINT, and behind them the length.
        private final int[] starts;
        // The POINT of which CODE is made.
        private int point;

        Code(Machine machine) {
            this.machine = machine;
            kinds = new int[MAX_CODE];
            operands = new int[OPERANDS * MAX_CODE];
            points = new int[MAX_CODE];
            starts = new int[MAX_POINTS + 1];
        }

        void make(Instructions lines, Homes homes) {
            length = 0;
            for (int next = 0; next < lines.count; next++) {
                point = next;
                put(starts, point, length);
                if (lines.kindOf(point) == CALL) {
                    makeCall(lines, homes);
                } else if (!homes.isRemade(lines.writtenBy(point))) {
                    makeOne(lines, homes);
                }
            }
            put(starts, lines.count, length);
        }

        private void makeOne(Instructions lines, Homes homes) {
            int value = lines.writtenBy(point);
            int x = fetch(lines, homes, 0);
            int y = fetch(lines, homes, 1);
            int z = fetch(lines, homes, 2);
            int d = homes.isSpilled(value) ? machine.scratch() : homes.registerOf(value);
            switch (lines.kindOf(point)) {
                case LI:
                    add(LI, d, lines.numberOf(point), 0, 0);
                    break;
                case MOVE:
                    addMove(d, x);
                    break;
                case ADDI:
                    operate(ADDI, d, x, NONE, NONE, lines.numberOf(point));
                    break;
                default:
                    operate(lines.kindOf(point), d, x, y, z, 0);
                    break;
            }
            if (homes.isSpilled(value)) {
                add(STORE, d, homes.slotOf(value), 0, 0);
            }
        }

        // Answers the REGISTER in which the VALUE that is read k-th is, once it is there.
        private int fetch(Instructions lines, Homes homes, int k) {
            int value = lines.readBy(point, k);
            if (value == NONE || !homes.isSpilled(value)) {
                return homes.registerOf(value);
            }
            addLoad(homes, value, machine.scratch() + k);
            return machine.scratch() + k;
        }

        private void bring(Homes homes, int value, int d) {
            if (homes.isSpilled(value)) {
                addLoad(homes, value, d);
            } else {
                addMove(d, homes.registerOf(value));
            }
        }

        private void addLoad(Homes homes, int value, int d) {
            if (at(homes.isMadeAnew, value) == 1) {
                add(LI, d, at(homes.numbers, value), 0, 0);
            } else {
                add(LOAD, d, at(homes.slots, value), 0, 0);
            }
        }

        private void operate(int kind, int d, int x, int y, int z, int n) {
            int s = machine.scratch();
            if (!machine.isTwo || x == d) {
                addOperation(kind, d, x, y, z, n);
            } else if (d != y && d != z) {
                addMove(d, x);
                addOperation(kind, d, d, y, z, n);
            } else if (kind == ADD || kind == MUL) {
                addOperation(kind, d, y, x, z, n);
            } else {
                addMove(s, x);
                addOperation(kind, s, s, y, z, n);
                addMove(d, s);
            }
        }

        private void addOperation(int kind, int d, int x, int y, int z, int n) {
            if (kind == ADDI) {
                add(ADDI, d, x, n, 0);
            } else {
                add(kind, d, x, y, kind == FUSE ? z : 0);
            }
        }

        private void makeCall(Instructions lines, Homes homes) {
            int value = lines.writtenBy(point);
            int first = lines.readBy(point, 0);
            int second = lines.readBy(point, 1);
            boolean isSecondInWay = homes.registerOf(second) == 0;
            if (isSecondInWay && homes.registerOf(first) == 1) {
                addMove(machine.scratch(), 0);
                addMove(0, 1);
                addMove(1, machine.scratch());
            } else if (isSecondInWay) {
                addMove(1, 0);
                bring(homes, first, 0);
            } else {
                bring(homes, first, 0);
                bring(homes, second, 1);
            }
            add(CALL, 0, 0, 0, 0);
            if (homes.isSpilled(value)) {
                add(STORE, 0, homes.slotOf(value), 0, 0);
            } else {
                addMove(homes.registerOf(value), 0);
            }
        }

        private void addMove(int d, int x) {
            if (d != x) {
                add(MOVE, d, x, 0, 0);
            }
        }

        private void add(int kind, int first, int second, int third, int fourth) {
            // All rows are as long as this test says, four times so the operands.
            if (length < 0 || length >= MAX_CODE) {
                return;
            }
            int place = OPERANDS * length;
            kinds[length] = kind;
            operands[place] = first;
            operands[place + 1] = second;
            operands[place + 2] = third;
            operands[place + 3] = fourth;
            points[length] = point;
            length++;
        }

        int kindOf(int k) {
            return at(kinds, k);
        }

        int operandOf(int k, int number) {
            return at(operands, OPERANDS * k + number - 1);
        }

        int startOf(int ofPoint) {
            return at(starts, ofPoint);
        }

        int tellPlace(int k, int what) {
            if (what == 0) {
                return kindOf(k);
            }
            return what == 5 ? at(points, k) : operandOf(k, what);
        }

        int countOf(int kind) {
            int count = 0;
            for (int k = 0; k < length; k++) {
                if (kindOf(k) == kind) {
                    count++;
                }
            }
            return count;
        }
    }

    /** A RUN (Terms 8). */
    private static final class Run {
        int steps;
        int cycles;
        int stalls;
        final int[] begins;
        final int[] registers;
        final int[] slots;
        private final Program program;
        private final Machine machine;
        private final int[] ready;
        private int lastBegin;

        Run(Program program, Machine machine) {
            this.program = program;
            this.machine = machine;
            begins = new int[MAX_CODE];
            registers = new int[MAX_REGISTERS];
            slots = new int[MAX_VALUES];
            ready = new int[MAX_REGISTERS];
        }

        void go(Code code, int[] starts) {
            steps = 0;
            cycles = 0;
            stalls = 0;
            lastBegin = -1;
            fill(begins, NONE);
            fill(registers, 0);
            fill(slots, 0);
            fill(ready, 0);
            goThrough(code, 0, code.startOf(at(starts, 0)));
            for (int block = 0; block < BLOCKS; block++) {
                int from = code.startOf(at(starts, block));
                int to = code.startOf(at(starts, block + 1));
                int rounds = program.roundsOf(block);
                for (int round = 0; round < rounds; round++) {
                    goThrough(code, from, to);
                }
            }
        }

        private void goThrough(Code code, int from, int to) {
            for (int k = from; k < to; k++) {
                int kind = code.kindOf(k);
                int first = code.operandOf(k, 1);
                int second = code.operandOf(k, 2);
                int third = code.operandOf(k, 3);
                int fourth = code.operandOf(k, 4);
                int begin = Math.max(lastBegin + 1, readyFor(kind, first, second, third, fourth));
                stalls += begin - lastBegin - 1;
                lastBegin = begin;
                steps++;
                cycles = begin + machine.cyclesOf(kind);
                if (at(begins, k) == NONE) {
                    put(begins, k, begin);
                }
                perform(kind, first, second, third, fourth);
            }
        }

        private int readyFor(int kind, int first, int second, int third, int fourth) {
            switch (kind) {
                case MOVE:
                case ADDI:
                    return at(ready, second);
                case ADD:
                case SUB:
                case MUL:
                    return Math.max(at(ready, second), at(ready, third));
                case FUSE:
                    return Math.max(at(ready, second),
                            Math.max(at(ready, third), at(ready, fourth)));
                case STORE:
                    return at(ready, first);
                case CALL:
                    return Math.max(at(ready, 0), at(ready, 1));
                default:
                    return 0;
            }
        }

        private void perform(int kind, int first, int second, int third, int fourth) {
            if (kind == STORE) {
                put(slots, second, at(registers, first));
            } else if (kind == CALL) {
                performCall();
            } else {
                put(registers, first, resultOf(kind, second, third, fourth));
                put(ready, first, cycles);
            }
        }

        private int resultOf(int kind, int second, int third, int fourth) {
            int x = at(registers, second);
            int y = at(registers, third);
            switch (kind) {
                case LI:
                    return second;
                case MOVE:
                    return x;
                case ADD:
                    return x + y;
                case SUB:
                    return x - y;
                case MUL:
                    return x * y;
                case ADDI:
                    return x + third;
                case FUSE:
                    return x * y + at(registers, fourth);
                default:
                    return at(slots, second);
            }
        }

        private void performCall() {
            int result = 3 * at(registers, 0) + 2 * at(registers, 1) + 1;
            for (int register = 1; register < machine.registers; register++) {
                if (!hasBit(machine.kept, register)) {
                    put(registers, register, LOST);
                    put(ready, register, lastBegin);
                }
            }
            put(registers, 0, result);
            put(ready, 0, cycles);
        }
    }

    /** What a machine makes of a plan: homes, code and a RUN, and what is told of all of them. */
    private static final class Works {
        final Homes homes;
        final Code code;
        final Run run;
        private final Program program;

        Works(Program program, Machine machine) {
            this.program = program;
            homes = new Homes(machine);
            code = new Code(machine);
            run = new Run(program, machine);
        }

        void build(Plan plan) {
            homes.give(plan.lines, plan.lives);
            code.make(plan.lines, homes);
            run.go(code, plan.starts);
        }

        int tellLine(Plan plan, int point, int what) {
            switch (what) {
                case 0:
                    return plan.lines.kindOf(point);
                case 1:
                    return plan.lines.writtenBy(point);
                case 5:
                    return plan.lines.numberOf(point);
                case 6:
                    return plan.lines.blockOf(point);
                case 7:
                    return plan.lines.heightOf(point);
                default:
                    return plan.lines.readBy(point, what - 2);
            }
        }

        int tellValue(Plan plan, int value, int what) {
            switch (what) {
                case 0:
                    return plan.lives.firstOf(value);
                case 1:
                    return plan.lives.lastOf(value);
                case 2:
                    return plan.lives.weightOf(value);
                case 3:
                    return homes.registerOf(value);
                case 4:
                    return homes.slotOf(value);
                case 5:
                    return homes.isRemade(value) ? 1 : 0;
                case 6:
                    return plan.lives.crossedBy(value);
                default:
                    return plan.lives.touchesOf(value);
            }
        }

        int tellCall(Plan plan, int call, int what) {
            int point = plan.lives.pointOfCall(call);
            if (what == 0) {
                return point;
            }
            int registers = 0;
            int slots = 0;
            int remade = 0;
            for (int value = 0; value < plan.lives.valueCount; value++) {
                if (plan.lives.isCrossing(value, point)) {
                    registers |= bit(homes.registerOf(value));
                    slots |= bit(homes.slotOf(value));
                    remade += homes.isRemade(value) ? 1 : 0;
                }
            }
            if (what == 1) {
                return registers;
            }
            return what == 2 ? slots : remade;
        }

        int tellAnswer(Plan plan, int variable) {
            if (!plan.lives.isLiving(variable)) {
                return 0;
            }
            if (homes.isRemade(variable)) {
                return homes.numberOf(variable);
            }
            return homes.isSpilled(variable) ? at(run.slots, homes.slotOf(variable))
                    : at(run.registers, homes.registerOf(variable));
        }

        int tellMany(Plan plan, int what) {
            switch (what) {
                case 0:
                    return program.nodeCount;
                case 1:
                    return program.looseCount();
                case 2:
                    return program.statementCount;
                case 3:
                    return plan.lines.count;
                case 4:
                    return plan.lives.livingCount;
                case 5:
                    return homes.spilledCount;
                case 6:
                    return homes.remadeCount;
                case 7:
                    return homes.slotCount;
                case 8:
                    return homes.frame;
                case 9:
                    return code.length;
                case 10:
                    return code.countOf(MOVE);
                case 11:
                    return code.countOf(LOAD) + code.countOf(STORE);
                case 12:
                    return run.steps;
                case 13:
                    return run.cycles;
                case 14:
                    return run.stalls;
                default:
                    return plan.lives.mostAtOnce(plan.lines.count);
            }
        }
    }
}
