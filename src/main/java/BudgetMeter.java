/**
 * A metering interpreter for a small register machine: a program runs with a budget, and every
 * instruction has a cost that is charged per instruction, per basic block or per chain of blocks.
 *
 * <p>Everything that a call needs is made with the object; no call makes another object.
 */
public final class BudgetMeter {
    /** An argument is not in its range. */
    public static final int OUT_OF_RANGE = -2;
    /** There is no more room. */
    public static final int FULL = -3;
    /** There is no saved state. */
    public static final int NOTHING_SAVED = -4;
    /** There is no such number. */
    public static final int NONE = -1;

    private static final int ADD = 0;
    private static final int SET = 1;
    private static final int COPY = 2;
    private static final int SUB = 3;
    private static final int JUMP = 4;
    private static final int JZERO = 5;
    private static final int JNEG = 6;
    private static final int HALT = 7;

    private static final int OPCODES = 8;
    private static final int REGISTERS = 4;
    private static final int MAX_INSTRUCTIONS = 24;
    private static final int MAX_TARGET = 24;
    private static final int MAX_CONSTANT = 99;
    private static final int MAX_COST = 9;
    private static final int MAX_TEXT = 150;
    private static final int MAX_BYTE = 127;
    private static final int MAX_SAVED = 5;
    private static final int MAX_BUDGET = 30000;
    private static final int MAX_STEPS = 3000;
    private static final int ERROR_CODES = 3;
    private static final int SYNTAX_ERROR = -10;

    private static final int PER_INSTRUCTION = 0;
    private static final int PER_BLOCK = 1;
    private static final int PER_CHAIN = 2;

    private static final int ENDED = 0;
    private static final int STOPPED = 1;
    private static final int INTERRUPTED = 2;

    private static final int FLOAT_BIAS = 127;
    private static final int FLOAT_FRACTION_BITS = 23;

    private final Source source = new Source();
    private final Setup setup = new Setup();
    private final Setup assembled = new Setup();
    private final Graph graph = new Graph();
    private final Prices prices = new Prices();
    private final History history = new History();
    private final Execution latest = new Execution();
    private final Execution trial = new Execution();
    /** The counters of -2, -3 and -4, in this order. */
    private final int[] errors = new int[ERROR_CODES];

    public BudgetMeter() {
    }

    public int append(int value) {
        if (value < 0 || value > MAX_BYTE) {
            return refuse(OUT_OF_RANGE);
        }
        if (!source.add(value)) {
            return refuse(FULL);
        }
        return source.length;
    }

    public int clearText() {
        int length = source.length;
        source.length = 0;
        return length;
    }

    public int assemble() {
        int wrong = source.translate(assembled);
        if (wrong != NONE) {
            return SYNTAX_ERROR - wrong;
        }
        history.save(setup);
        setup.takeProgram(assembled);
        analyse();
        return setup.size;
    }

    public int setCost(int opcode, int cost) {
        if (opcode < 0 || opcode >= OPCODES || cost < 1 || cost > MAX_COST) {
            return refuse(OUT_OF_RANGE);
        }
        history.save(setup);
        int previous = setup.costs[opcode];
        setup.costs[opcode] = cost;
        prices.update(setup, graph);
        return previous;
    }

    public int opcode(int index) {
        return setup.has(index) ? setup.opcodes[index] : refuse(OUT_OF_RANGE);
    }

    public int blocks() {
        return graph.count;
    }

    public int blockOf(int index) {
        return setup.has(index) ? graph.blockAt[index] : refuse(OUT_OF_RANGE);
    }

    public int successors(int block) {
        return graph.has(block) ? graph.successorSets[block] : refuse(OUT_OF_RANGE);
    }

    public int blockCost(int block) {
        return graph.has(block) ? prices.blockCosts[block] : refuse(OUT_OF_RANGE);
    }

    public int chainHead(int block) {
        return graph.has(block) ? graph.heads[block] : refuse(OUT_OF_RANGE);
    }

    public int chainCost(int block) {
        return graph.has(block) ? prices.chainCosts[block] : refuse(OUT_OF_RANGE);
    }

    public int reachableBlocks() {
        return graph.reachable;
    }

    public int greatestCost() {
        return prices.greatest;
    }

    public int leastCost() {
        return prices.least;
    }

    public int run(int mode, int budget) {
        if (mode < PER_INSTRUCTION || mode > PER_CHAIN || budget < 0 || budget > MAX_BUDGET) {
            return refuse(OUT_OF_RANGE);
        }
        latest.execute(setup, prices, mode, budget);
        return latest.status;
    }

    public int steps() {
        return latest.steps;
    }

    public int remaining() {
        return latest.remaining;
    }

    public int charges() {
        return latest.charges;
    }

    public int register(int register) {
        return latest.valueOf(register);
    }

    public int stoppedAt() {
        return latest.stop;
    }

    public int chargeRateBits() {
        if (latest.steps == 0) {
            return 0;
        }
        return floatBits((float) latest.charges / (float) latest.steps);
    }

    public int neededBudget() {
        // All modes stop at the same point, and the dearest run that can end (3000 steps of
        // cost 9) is below the greatest budget: one run tells the sum.
        trial.execute(setup, prices, PER_INSTRUCTION, MAX_BUDGET);
        return trial.status == ENDED ? MAX_BUDGET - trial.remaining : NONE;
    }

    public int undo() {
        if (history.size == 0) {
            return refuse(NOTHING_SAVED);
        }
        history.restore(setup);
        analyse();
        return history.size;
    }

    public int errorCount(int code) {
        return isErrorCode(code) ? errors[OUT_OF_RANGE - code] : refuse(OUT_OF_RANGE);
    }

    public long digest() {
        long hash = 2663L;
        for (int place = 0; place < errors.length; place++) {
            hash = mix(hash, errors[place]);
        }
        hash = mix(hash, source.length);
        hash = mixSetup(hash);
        hash = mixFlow(hash);
        hash = mixLatest(hash);
        return mix(hash, history.size);
    }

    private long mixSetup(long start) {
        long hash = start;
        for (int code = 0; code < OPCODES; code++) {
            hash = mix(hash, setup.costs[code]);
        }
        hash = mix(hash, setup.size);
        for (int index = 0; index < setup.size; index++) {
            hash = mix(hash, setup.opcodes[index]);
        }
        return hash;
    }

    private long mixFlow(long start) {
        long hash = mix(start, graph.count);
        for (int block = 0; block < graph.count; block++) {
            hash = mix(hash, graph.successorSets[block]);
            hash = mix(hash, prices.blockCosts[block]);
            hash = mix(hash, graph.heads[block]);
            hash = mix(hash, prices.chainCosts[block]);
        }
        hash = mix(hash, graph.reachable);
        hash = mix(hash, prices.greatest);
        return mix(hash, prices.least);
    }

    private long mixLatest(long start) {
        long hash = mix(start, latest.status);
        hash = mix(hash, latest.steps);
        hash = mix(hash, latest.remaining);
        hash = mix(hash, latest.charges);
        for (int place = 0; place < REGISTERS; place++) {
            hash = mix(hash, latest.valueOf(place));
        }
        return mix(hash, latest.stop);
    }

    private static long mix(long hash, int value) {
        return 31L * hash + value;
    }

    private void analyse() {
        graph.update(setup);
        prices.update(setup, graph);
    }

    private int refuse(int code) {
        if (isErrorCode(code)) {
            errors[OUT_OF_RANGE - code]++;
        }
        return code;
    }

    private static boolean isErrorCode(int code) {
        return code >= NOTHING_SAVED && code <= OUT_OF_RANGE;
    }

    /**
     * The bits of a float above 0 and at most 1 (a charge is always followed by a step, so there
     * are never more charges than steps). The steps of the scaling are exact.
     */
    private static int floatBits(float rate) {
        float scaled = rate;
        int exponent = FLOAT_BIAS;
        while (exponent > 0 && scaled < 1.0f) {
            scaled = scaled * 2.0f;
            exponent--;
        }
        int fraction = (int) ((scaled - 1.0f) * (float) (1 << FLOAT_FRACTION_BITS));
        return (exponent << FLOAT_FRACTION_BITS) + fraction;
    }

    /** The source text and its reader; after the first error every reading method leaves all as it is. */
    private static final class Source {
        int length = 0;
        private final int[] bytes = new int[MAX_TEXT];
        private int at = 0;
        private int wrong = NONE;

        boolean add(int value) {
            if (length < 0 || length >= bytes.length) {
                return false;
            }
            bytes[length] = value;
            length++;
            return true;
        }

        /** Returns the syntax error position, NONE if the whole text was translated. */
        int translate(Setup into) {
            at = 0;
            wrong = NONE;
            into.size = 0;
            skipSpaces();
            // One round more than there is room for: its letter is the error.
            for (int round = 0; round <= MAX_INSTRUCTIONS && wrong == NONE && !atEnd(); round++) {
                readInstruction(into);
                skipSpaces();
            }
            return wrong;
        }

        private void readInstruction(Setup into) {
            int opcode = opcodeOf(current());
            if (opcode == NONE || into.size >= MAX_INSTRUCTIONS) {
                wrong = at;
                return;
            }
            at++;
            int register = 0;
            int operand = 0;
            if (opcode != JUMP && opcode != HALT) {
                register = readNumber(REGISTERS - 1, false);
            }
            if (opcode != HALT) {
                operand = readNumber(greatestOperand(opcode), opcode == ADD || opcode == SET);
            }
            readSemicolon();
            if (wrong == NONE) {
                into.add(opcode, register, operand);
            }
        }

        private int readNumber(int greatest, boolean signed) {
            if (wrong != NONE) {
                return 0;
            }
            skipSpaces();
            boolean negative = signed && current() == '-';
            if (negative) {
                at++;
            }
            int first = at;
            int value = 0;
            while (at < first + 3 && isDigit(current())) {
                value = 10 * value + (current() - '0');
                at++;
            }
            int digits = at - first;
            if (digits == 0) {
                wrong = at;
            } else if (digits == 3) {
                wrong = at - 1;
            } else if (value > greatest) {
                wrong = first;
            }
            return negative ? -value : value;
        }

        private void readSemicolon() {
            if (wrong != NONE) {
                return;
            }
            skipSpaces();
            if (current() == ';') {
                at++;
            } else {
                wrong = at;
            }
        }

        private void skipSpaces() {
            while (at < MAX_TEXT && current() == ' ') {
                at++;
            }
        }

        private boolean atEnd() {
            return current() == NONE;
        }

        /** NONE behind the end: no byte has that value, so it fits nowhere in the syntax. */
        private int current() {
            return at >= 0 && at < length && at < bytes.length ? bytes[at] : NONE;
        }

        private static int greatestOperand(int opcode) {
            switch (opcode) {
                case ADD:
                case SET:
                    return MAX_CONSTANT;
                case COPY:
                case SUB:
                    return REGISTERS - 1;
                default:
                    return MAX_TARGET;
            }
        }

        private static boolean isDigit(int value) {
            return value >= '0' && value <= '9';
        }

        private static int opcodeOf(int letter) {
            switch (letter) {
                case 'a':
                    return ADD;
                case 's':
                    return SET;
                case 'c':
                    return COPY;
                case 'd':
                    return SUB;
                case 'j':
                    return JUMP;
                case 'z':
                    return JZERO;
                case 'n':
                    return JNEG;
                case 'h':
                    return HALT;
                default:
                    return NONE;
            }
        }
    }

    /** The program and the costs: the state that undo brings back. */
    private static final class Setup {
        int size = 0;
        final int[] opcodes = new int[MAX_INSTRUCTIONS];
        final int[] registers = new int[MAX_INSTRUCTIONS];
        /** The constant, the second register or the target. */
        final int[] operands = new int[MAX_INSTRUCTIONS];
        final int[] costs = new int[OPCODES];

        Setup() {
            for (int code = 0; code < OPCODES; code++) {
                costs[code] = 1;
            }
        }

        boolean has(int index) {
            return index >= 0 && index < size;
        }

        void add(int opcode, int register, int operand) {
            if (size >= 0 && size < MAX_INSTRUCTIONS) {
                opcodes[size] = opcode;
                registers[size] = register;
                operands[size] = operand;
                size++;
            }
        }

        int costAt(int index) {
            int code = has(index) ? opcodes[index] : NONE;
            return code >= 0 && code < OPCODES ? costs[code] : 0;
        }

        void takeProgram(Setup other) {
            size = other.size;
            System.arraycopy(other.opcodes, 0, opcodes, 0, MAX_INSTRUCTIONS);
            System.arraycopy(other.registers, 0, registers, 0, MAX_INSTRUCTIONS);
            System.arraycopy(other.operands, 0, operands, 0, MAX_INSTRUCTIONS);
        }

        void takeAll(Setup other) {
            takeProgram(other);
            System.arraycopy(other.costs, 0, costs, 0, OPCODES);
        }
    }

    /** The saved setups, in a ring so that the oldest gives its place to the newest. */
    private static final class History {
        int size = 0;
        private int next = 0;
        private final Setup[] places = new Setup[MAX_SAVED];

        History() {
            for (int place = 0; place < MAX_SAVED; place++) {
                places[place] = new Setup();
            }
        }

        void save(Setup current) {
            Setup place = placeAt(next);
            if (place == null) {
                return;
            }
            place.takeAll(current);
            next = next + 1 < MAX_SAVED ? next + 1 : 0;
            size = size < MAX_SAVED ? size + 1 : MAX_SAVED;
        }

        void restore(Setup current) {
            int newest = next > 0 ? next - 1 : MAX_SAVED - 1;
            Setup place = placeAt(newest);
            if (size == 0 || place == null) {
                return;
            }
            current.takeAll(place);
            next = newest;
            size--;
        }

        private Setup placeAt(int index) {
            return index >= 0 && index < MAX_SAVED ? places[index] : null;
        }
    }

    /** The blocks of a program and how they follow each other: all that no cost changes. */
    private static final class Graph {
        int count = 0;
        int reachable = 0;
        final int[] blockAt = new int[MAX_INSTRUCTIONS];
        final int[] starts = new int[MAX_INSTRUCTIONS];
        /** The successor that has the next instruction, NONE if there is none. */
        final int[] following = new int[MAX_INSTRUCTIONS];
        /** The successor that has the target, NONE if there is none. */
        final int[] targeted = new int[MAX_INSTRUCTIONS];
        final int[] successorSets = new int[MAX_INSTRUCTIONS];
        final int[] heads = new int[MAX_INSTRUCTIONS];
        private final boolean[] enders = new boolean[MAX_INSTRUCTIONS];
        private final int[] lasts = new int[MAX_INSTRUCTIONS];
        private final int[] predecessorSets = new int[MAX_INSTRUCTIONS];
        /** The block to which a block is joined, NONE if there is none. */
        private final int[] joinedTo = new int[MAX_INSTRUCTIONS];

        void update(Setup setup) {
            divide(setup, leaders(setup));
            for (int block = 0; block < count; block++) {
                connect(setup, block);
            }
            collectPredecessors();
            join();
            for (int block = 0; block < count; block++) {
                heads[block] = headOf(block);
            }
            reachable = reach();
        }

        boolean has(int block) {
            return block >= 0 && block < count;
        }

        boolean canEnd(int block) {
            return has(block) && enders[block];
        }

        private static boolean contains(int set, int block) {
            return (set & bit(block)) != 0;
        }

        private static int bit(int block) {
            return block >= 0 && block < MAX_INSTRUCTIONS ? 1 << block : 0;
        }

        private static boolean jumps(int opcode) {
            return opcode == JUMP || opcode == JZERO || opcode == JNEG;
        }

        private static boolean goesOn(int opcode) {
            return opcode != JUMP && opcode != HALT;
        }

        private static int leaders(Setup setup) {
            int leaders = bit(0);
            for (int index = 0; index < setup.size; index++) {
                int opcode = setup.opcodes[index];
                if (jumps(opcode)) {
                    leaders |= bit(setup.operands[index]);
                }
                if (jumps(opcode) || opcode == HALT) {
                    leaders |= bit(index + 1);
                }
            }
            return leaders;
        }

        private void divide(Setup setup, int leaders) {
            count = 0;
            int block = 0;
            for (int index = 0; index < setup.size; index++) {
                if (contains(leaders, index)) {
                    block = count;
                    starts[block] = index;
                    count++;
                }
                blockAt[index] = block;
                lasts[block] = index;
            }
        }

        private void connect(Setup setup, int block) {
            int last = lasts[block];
            int opcode = setup.has(last) ? setup.opcodes[last] : HALT;
            int target = setup.has(last) ? setup.operands[last] : NONE;
            following[block] = goesOn(opcode) ? blockFrom(setup, last + 1) : NONE;
            targeted[block] = jumps(opcode) ? blockFrom(setup, target) : NONE;
            successorSets[block] = bit(following[block]) | bit(targeted[block]);
            boolean endsBehind = goesOn(opcode) && following[block] == NONE;
            boolean endsAtTarget = jumps(opcode) && targeted[block] == NONE;
            enders[block] = opcode == HALT || endsBehind || endsAtTarget;
        }

        private int blockFrom(Setup setup, int index) {
            return setup.has(index) ? blockAt[index] : NONE;
        }

        private void collectPredecessors() {
            for (int block = 0; block < count; block++) {
                predecessorSets[block] = 0;
            }
            for (int block = 0; block < count; block++) {
                addPredecessor(following[block], block);
                addPredecessor(targeted[block], block);
            }
        }

        private void addPredecessor(int block, int predecessor) {
            if (has(block)) {
                predecessorSets[block] |= bit(predecessor);
            }
        }

        private void join() {
            for (int block = 0; block < count; block++) {
                joinedTo[block] = NONE;
            }
            for (int block = 0; block < count; block++) {
                int next = following[block] != NONE ? following[block] : targeted[block];
                if (has(next) && isJoined(next, block)) {
                    joinedTo[next] = block;
                }
            }
        }

        private boolean isJoined(int block, int before) {
            return block != 0 && block != before && !canEnd(before)
                    && successorSets[before] == bit(block)
                    && predecessorSets[block] == bit(before);
        }

        /** A walk that takes as many steps as there are blocks goes round in a ring. */
        private int headOf(int block) {
            int head = block;
            int lowest = block;
            for (int walked = 0; walked < count; walked++) {
                if (!has(head) || joinedTo[head] == NONE) {
                    return head;
                }
                head = joinedTo[head];
                lowest = Math.min(lowest, head);
            }
            return lowest;
        }

        private int reach() {
            int seen = has(0) ? bit(0) : 0;
            for (int round = 0; round < count; round++) {
                int known = seen;
                for (int block = 0; block < count; block++) {
                    if (contains(seen, block)) {
                        seen |= successorSets[block];
                    }
                }
                if (seen == known) {
                    return seen;
                }
            }
            return seen;
        }
    }

    /** What blocks, chains and ways through the program cost. */
    private static final class Prices {
        int greatest = 0;
        int least = 0;
        final int[] blockCosts = new int[MAX_INSTRUCTIONS];
        final int[] chainCosts = new int[MAX_INSTRUCTIONS];
        final int[] instructionCosts = new int[MAX_INSTRUCTIONS];
        /** Never written: no instruction enters anything that is charged as a whole. */
        private final int[] noEntries = new int[MAX_INSTRUCTIONS];
        private final int[] blockEntries = new int[MAX_INSTRUCTIONS];
        private final int[] chainEntries = new int[MAX_INSTRUCTIONS];
        /** The cost from a block to the end of the run, NONE while it is not known. */
        private final int[] ways = new int[MAX_INSTRUCTIONS];

        void update(Setup setup, Graph graph) {
            sumInstructions(setup, graph);
            sumChains(graph);
            markEntries(setup, graph);
            greatest = greatestWay(graph);
            least = leastWay(graph);
        }

        /** For each instruction the cost of the block or chain that is entered there, 0 if none. */
        int[] entriesOf(int mode) {
            if (mode == PER_BLOCK) {
                return blockEntries;
            }
            return mode == PER_CHAIN ? chainEntries : noEntries;
        }

        private void sumInstructions(Setup setup, Graph graph) {
            for (int block = 0; block < graph.count; block++) {
                blockCosts[block] = 0;
            }
            for (int index = 0; index < setup.size; index++) {
                int block = graph.blockAt[index];
                instructionCosts[index] = setup.costAt(index);
                if (graph.has(block)) {
                    blockCosts[block] += instructionCosts[index];
                }
            }
        }

        private void sumChains(Graph graph) {
            for (int block = 0; block < graph.count; block++) {
                chainCosts[block] = 0;
            }
            for (int block = 0; block < graph.count; block++) {
                int head = graph.heads[block];
                if (graph.has(head)) {
                    chainCosts[head] += blockCosts[block];
                }
            }
            for (int block = 0; block < graph.count; block++) {
                int head = graph.heads[block];
                chainCosts[block] = graph.has(head) ? chainCosts[head] : 0;
            }
        }

        private void markEntries(Setup setup, Graph graph) {
            for (int index = 0; index < setup.size; index++) {
                blockEntries[index] = 0;
                chainEntries[index] = 0;
            }
            for (int block = 0; block < graph.count; block++) {
                int start = graph.starts[block];
                if (setup.has(start)) {
                    blockEntries[start] = blockCosts[block];
                    chainEntries[start] = graph.heads[block] == block ? chainCosts[block] : 0;
                }
            }
        }

        /** A block gets its way after its successors; what leads into a cycle never gets one. */
        private int greatestWay(Graph graph) {
            forgetWays(graph);
            boolean changed = true;
            for (int round = 0; round < graph.count && changed; round++) {
                changed = false;
                for (int block = graph.count - 1; block >= 0; block--) {
                    int way = ways[block] == NONE ? greatestFrom(graph, block) : NONE;
                    if (way != NONE) {
                        ways[block] = way;
                        changed = true;
                    }
                }
            }
            return graph.has(0) ? ways[0] : 0;
        }

        private int greatestFrom(Graph graph, int block) {
            int following = graph.following[block];
            int targeted = graph.targeted[block];
            int first = following == NONE ? 0 : wayFrom(graph, following);
            int second = targeted == NONE ? 0 : wayFrom(graph, targeted);
            if (first == NONE || second == NONE) {
                return NONE;
            }
            return blockCosts[block] + Math.max(first, second);
        }

        private int leastWay(Graph graph) {
            forgetWays(graph);
            boolean changed = true;
            for (int round = 0; round < graph.count && changed; round++) {
                changed = false;
                for (int block = graph.count - 1; block >= 0; block--) {
                    int way = leastFrom(graph, block);
                    if (way != ways[block]) {
                        ways[block] = way;
                        changed = true;
                    }
                }
            }
            return graph.has(0) ? ways[0] : 0;
        }

        private int leastFrom(Graph graph, int block) {
            if (graph.canEnd(block)) {
                return blockCosts[block];
            }
            int first = wayFrom(graph, graph.following[block]);
            int second = wayFrom(graph, graph.targeted[block]);
            if (first == NONE && second == NONE) {
                return NONE;
            }
            if (first == NONE || second == NONE) {
                return blockCosts[block] + Math.max(first, second);
            }
            return blockCosts[block] + Math.min(first, second);
        }

        private void forgetWays(Graph graph) {
            for (int block = 0; block < graph.count; block++) {
                ways[block] = NONE;
            }
        }

        private int wayFrom(Graph graph, int block) {
            return graph.has(block) ? ways[block] : NONE;
        }
    }

    /** A run and its result. */
    private static final class Execution {
        int status = ENDED;
        int steps = 0;
        int remaining = 0;
        int charges = 0;
        /** The instruction that was not executed, NONE if the run ended. */
        int stop = NONE;
        private final int[] values = new int[REGISTERS];

        void execute(Setup setup, Prices prices, int mode, int budget) {
            int[] entries = prices.entriesOf(mode);
            begin(budget);
            boolean paid = false;
            int at = 0;
            for (steps = 0; steps < MAX_STEPS && setup.has(at); steps++) {
                if (entries[at] > 0) {
                    paid = pay(entries[at]);
                }
                if (!paid && !pay(prices.instructionCosts[at])) {
                    finish(STOPPED, at);
                    return;
                }
                at = perform(setup, at);
            }
            if (setup.has(at)) {
                finish(INTERRUPTED, at);
            }
        }

        int valueOf(int register) {
            return register >= 0 && register < REGISTERS ? values[register] : 0;
        }

        private void begin(int budget) {
            status = ENDED;
            remaining = budget;
            charges = 0;
            stop = NONE;
            for (int register = 0; register < REGISTERS; register++) {
                values[register] = 0;
            }
        }

        private void finish(int newStatus, int at) {
            status = newStatus;
            stop = at;
        }

        private boolean pay(int price) {
            if (remaining < price) {
                return false;
            }
            remaining -= price;
            charges++;
            return true;
        }

        /** Returns the number of the next instruction. */
        private int perform(Setup setup, int at) {
            int register = setup.registers[at];
            int operand = setup.operands[at];
            int value = valueOf(register);
            switch (setup.opcodes[at]) {
                case ADD:
                    put(register, value + operand);
                    return at + 1;
                case SET:
                    put(register, operand);
                    return at + 1;
                case COPY:
                    put(register, valueOf(operand));
                    return at + 1;
                case SUB:
                    put(register, value - valueOf(operand));
                    return at + 1;
                case JUMP:
                    return operand;
                case JZERO:
                    return value == 0 ? operand : at + 1;
                case JNEG:
                    return value < 0 ? operand : at + 1;
                default:
                    // A HALT ends the run as a number does that no instruction can have.
                    return MAX_INSTRUCTIONS;
            }
        }

        private void put(int register, int value) {
            if (register >= 0 && register < REGISTERS) {
                values[register] = value;
            }
        }
    }
}
