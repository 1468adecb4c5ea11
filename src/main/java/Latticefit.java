import java.util.Arrays;
import java.util.NoSuchElementException;

/** A chip of small tables and switches, and all that brings a circuit onto it. */
public final class Latticefit {
    private static final int MAX_NODES = 48;
    private static final int MAX_INPUTS = 6;
    private static final int MAX_REGISTERS = 8;
    private static final int MAX_OUTPUTS = 6;
    private static final int CLOCKS = 3;
    private static final int TABLE_INPUTS = 4;
    private static final int BEST_CUTS = 6;
    private static final int SIDE = 6;
    private static final int CELLS = 36;
    private static final int CROSSING_SIDE = 7;
    private static final int CROSSINGS = 49;
    private static final int LEVEL_EDGES = 42;
    private static final int EDGES = 84;
    private static final int WIRES_OF_EDGE = 2;
    private static final int WIRES = 168;
    private static final int FRAMES = 14;
    private static final int OUTPUT_FRAME = 13;
    private static final int CELL_WORDS = 6;
    private static final int LONGEST_FRAME = 36;
    private static final int WORD_BITS = 16;
    private static final int WORD_MASK = 65535;
    private static final int TABLE_DELAY = 3;

    private static final int TABLE_CODE = 200;
    private static final int REGISTER_CODE = 201;
    private static final int INPUT_CODE = 300;

    // The stages stand in the order in which each one needs the one before.
    private static final int CHANGED = 0;
    private static final int MAPPED = 1;
    private static final int ROUTED = 2;
    private static final int BUILT = 3;
    private static final int STARTED = 4;

    private final Circuit circuit;
    private final Cuts cuts;
    private final Blocks blocks;
    private final Places places;
    private final Routes routes;
    private final Times times;
    private final Frames bits;
    private final Builder builder;
    private final Chip chip;
    private final Runner runner;
    private int stage;

    public Latticefit() {
        circuit = new Circuit();
        cuts = new Cuts(circuit);
        blocks = new Blocks(circuit);
        places = new Places(circuit, blocks);
        routes = new Routes(circuit);
        times = new Times(circuit, blocks, places, routes);
        bits = new Frames();
        builder = new Builder(circuit, blocks, places, routes, bits);
        chip = new Chip();
        runner = new Runner(circuit);
        stage = CHANGED;
    }

    // ---- circuit

    public int addInput() throws IllegalStateException {
        if (circuit.nodes >= MAX_NODES || circuit.inputs >= MAX_INPUTS) {
            throw new IllegalStateException();
        }
        stage = CHANGED;
        return circuit.putInput();
    }

    public int addRegister(boolean isOne, int clock)
            throws IllegalArgumentException, IllegalStateException {
        if (clock < 0 || clock >= CLOCKS) {
            throw new IllegalArgumentException();
        }
        if (circuit.nodes >= MAX_NODES || circuit.registers >= MAX_REGISTERS) {
            throw new IllegalStateException();
        }
        stage = CHANGED;
        return circuit.putRegister(isOne, clock);
    }

    public int addGate(char kind, int first, int second)
            throws IllegalArgumentException, IndexOutOfBoundsException, IllegalStateException {
        if (kind != 'a' && kind != 'o' && kind != 'x' && kind != 'n') {
            throw new IllegalArgumentException();
        }
        if (!circuit.isNode(first) || (kind != 'n' && !circuit.isNode(second))) {
            throw new IndexOutOfBoundsException();
        }
        if (circuit.nodes >= MAX_NODES) {
            throw new IllegalStateException();
        }
        stage = CHANGED;
        return circuit.putGate(kind, first, kind == 'n' ? first : second);
    }

    public int feed(int register, int node)
            throws IndexOutOfBoundsException, IllegalStateException {
        if (!circuit.isNode(register) || !circuit.isNode(node)) {
            throw new IndexOutOfBoundsException();
        }
        if (circuit.kind[register] != 'r') {
            throw new IllegalStateException();
        }
        stage = CHANGED;
        int before = circuit.feeder[register];
        circuit.feeder[register] = node;
        return before;
    }

    public int addOutput(int node) throws IndexOutOfBoundsException, IllegalStateException {
        if (!circuit.isNode(node)) {
            throw new IndexOutOfBoundsException();
        }
        if (circuit.outputs >= MAX_OUTPUTS) {
            throw new IllegalStateException();
        }
        stage = CHANGED;
        return circuit.putOutput(node);
    }

    public char kindOf(int node) throws IndexOutOfBoundsException {
        if (!circuit.isNode(node)) {
            throw new IndexOutOfBoundsException();
        }
        return circuit.kind[node];
    }

    // ---- tables and blocks

    public int map() throws IllegalStateException, UnsupportedOperationException {
        if (circuit.outputs == 0) {
            throw new IllegalStateException();
        }
        // What the rows of cuts and blocks held is lost even if the call is refused below; nobody
        // can see it, as a circuit that is refused was not mapped since it changed.
        cuts.findAll();
        blocks.pack(cuts);
        if (blocks.count > CELLS) {
            throw new UnsupportedOperationException();
        }
        places.putAnew();
        routes.clear();
        stage = MAPPED;
        return blocks.count;
    }

    public int depth(int node) throws IndexOutOfBoundsException, IllegalStateException {
        if (!circuit.isNode(node)) {
            throw new IndexOutOfBoundsException();
        }
        if (stage < MAPPED) {
            throw new IllegalStateException();
        }
        return cuts.depthOf[node];
    }

    public boolean isNeeded(int node) throws IndexOutOfBoundsException, IllegalStateException {
        if (!circuit.isNode(node)) {
            throw new IndexOutOfBoundsException();
        }
        if (stage < MAPPED) {
            throw new IllegalStateException();
        }
        return blocks.needed[node];
    }

    public int word(int block) throws IndexOutOfBoundsException, IllegalStateException {
        needBlock(block);
        return blocks.table[block];
    }

    public int inputOf(int block, int index)
            throws IndexOutOfBoundsException, IllegalStateException, NoSuchElementException {
        needBlock(block);
        if (index < 0 || index >= blocks.inputs[block]) {
            throw new NoSuchElementException();
        }
        return blocks.input[block][index];
    }

    public int gateOf(int block)
            throws IndexOutOfBoundsException, IllegalStateException, NoSuchElementException {
        needBlock(block);
        if (blocks.gate[block] < 0) {
            throw new NoSuchElementException();
        }
        return blocks.gate[block];
    }

    public int registerOf(int block)
            throws IndexOutOfBoundsException, IllegalStateException, NoSuchElementException {
        needBlock(block);
        if (blocks.register[block] < 0) {
            throw new NoSuchElementException();
        }
        return blocks.register[block];
    }

    // ---- places

    public int fix(int block, int cell)
            throws IndexOutOfBoundsException, IllegalStateException, UnsupportedOperationException {
        if (!isCell(cell)) {
            throw new IndexOutOfBoundsException();
        }
        needBlock(block);
        if (places.isFixed[block] || places.holdsFixed(cell)) {
            throw new UnsupportedOperationException();
        }
        places.exchange(places.cell[block], cell);
        places.isFixed[block] = true;
        stage = MAPPED;
        return places.findLengths();
    }

    public int anneal(int seed, int steps, int heat)
            throws IllegalArgumentException, IllegalStateException {
        if (seed < 0 || steps < 1 || steps > 200 || heat < 1 || heat > 50) {
            throw new IllegalArgumentException();
        }
        needStage(MAPPED);
        int swaps = places.swapByChance(seed, steps, heat);
        if (swaps > 0) {
            stage = MAPPED;
        }
        return swaps;
    }

    public int cellOf(int block) throws IndexOutOfBoundsException, IllegalStateException {
        needBlock(block);
        return places.cell[block];
    }

    public int cost() throws IllegalStateException {
        needStage(MAPPED);
        return places.findLengths();
    }

    public int excess() throws IllegalStateException {
        needStage(MAPPED);
        return places.clockExcess();
    }

    // ---- wires and times

    public int route(int rounds) throws IllegalArgumentException, IllegalStateException {
        if (rounds < 1 || rounds > 20) {
            throw new IllegalArgumentException();
        }
        needStage(MAPPED);
        stage = MAPPED;
        routes.clear();
        places.putPins(routes);
        int made = routes.makeRounds(rounds);
        if (!routes.isCrowded()) {
            stage = ROUTED;
        }
        return made;
    }

    public boolean isRouted() {
        return stage >= ROUTED;
    }

    public int netsOn(int edge) throws IndexOutOfBoundsException {
        if (!isEdge(edge)) {
            throw new IndexOutOfBoundsException();
        }
        // The routes of a circuit that has changed since still stand in the rows.
        return stage < MAPPED ? 0 : routes.users[edge];
    }

    public int wireOf(int node, int edge)
            throws IndexOutOfBoundsException, IllegalStateException, NoSuchElementException {
        if (!circuit.isNode(node) || !isEdge(edge)) {
            throw new IndexOutOfBoundsException();
        }
        needStage(ROUTED);
        if (!routes.has(node, edge)) {
            throw new NoSuchElementException();
        }
        return routes.wire(node, edge);
    }

    public int timeOf(int node)
            throws IndexOutOfBoundsException, IllegalStateException, NoSuchElementException {
        if (!circuit.isNode(node)) {
            throw new IndexOutOfBoundsException();
        }
        needStage(ROUTED);
        if (circuit.isGate(node) && !blocks.needed[node]) {
            throw new NoSuchElementException();
        }
        times.findAll();
        return times.ofNode[node];
    }

    public int slowest() throws IllegalStateException {
        needStage(ROUTED);
        times.findAll();
        return times.latest();
    }

    public double worstStretch() throws IllegalStateException, ArithmeticException {
        needStage(ROUTED);
        places.findLengths();
        double worst = -1.0;
        for (int node = 0; node < circuit.nodes; node++) {
            int length = places.lengthOf(node);
            if (length > 0) {
                double stretch = (double) routes.edgesOf(node) / (double) length;
                worst = stretch > worst ? stretch : worst;
            }
        }
        if (worst < 0.0) {
            throw new ArithmeticException();
        }
        return worst;
    }

    // ---- bitstream and chip

    public int build() throws IllegalStateException {
        needStage(ROUTED);
        builder.fillFrames();
        stage = BUILT;
        return bits.wordsInUse();
    }

    public int wordAt(int frame, int index)
            throws IndexOutOfBoundsException, IllegalStateException, NoSuchElementException {
        needFrame(frame, BUILT);
        if (index < 0 || index >= Frames.lengthOf(frame)) {
            throw new NoSuchElementException();
        }
        return bits.words[frame][index];
    }

    public int check(int frame) throws IndexOutOfBoundsException, IllegalStateException {
        needFrame(frame, BUILT);
        return bits.sumOf(frame);
    }

    public int start() throws IllegalStateException {
        needStage(BUILT);
        chip.reset(bits);
        runner.reset();
        for (int i = 0; i < circuit.registers; i++) {
            int register = circuit.registerNode[i];
            chip.register[places.cellOfNode(register)] = circuit.initial[register];
        }
        stage = STARTED;
        return circuit.outputs;
    }

    public boolean setInput(int input, boolean value)
            throws IndexOutOfBoundsException, IllegalStateException {
        if (input < 0 || input >= circuit.inputs) {
            throw new IndexOutOfBoundsException();
        }
        needStage(STARTED);
        boolean before = chip.input[input] != 0;
        chip.input[input] = value ? 1 : 0;
        return before;
    }

    public long tick(int clock) throws IllegalArgumentException, IllegalStateException {
        if (clock < 0 || clock >= CLOCKS) {
            throw new IllegalArgumentException();
        }
        needStage(STARTED);
        runner.takeTick(clock, chip.input);
        chip.takeTick(clock);
        return chip.ticks;
    }

    public boolean circuitOutput(int output)
            throws IndexOutOfBoundsException, IllegalStateException {
        needOutput(output);
        runner.findValues(chip.input);
        return runner.outputValue(output) != 0;
    }

    public boolean chipOutput(int output)
            throws IndexOutOfBoundsException, IllegalStateException {
        needOutput(output);
        chip.findTables();
        return chip.outputValue(output) != 0;
    }

    public boolean chipRegister(int cell)
            throws IndexOutOfBoundsException, IllegalStateException {
        if (!isCell(cell)) {
            throw new IndexOutOfBoundsException();
        }
        needStage(STARTED);
        return chip.register[cell] != 0;
    }

    public int sourceOf(int cell, int index)
            throws IndexOutOfBoundsException, IllegalStateException, NoSuchElementException {
        if (!isCell(cell) || index < 0 || index >= TABLE_INPUTS) {
            throw new IndexOutOfBoundsException();
        }
        needStage(STARTED);
        int node = places.nodeOfCode(chip.frames.endOf(chip.frames.cellWord(cell, 1 + index)));
        if (node < 0) {
            throw new NoSuchElementException();
        }
        return node;
    }

    public int flip(int frame, int index, int bit)
            throws IndexOutOfBoundsException, IllegalStateException, NoSuchElementException {
        if (bit < 0 || bit >= WORD_BITS) {
            throw new IndexOutOfBoundsException();
        }
        needFrame(frame, STARTED);
        if (index < 0 || index >= Frames.lengthOf(frame)) {
            throw new NoSuchElementException();
        }
        chip.frames.words[frame][index] ^= 1 << bit;
        return chip.frames.words[frame][index];
    }

    public boolean isBad(int frame) throws IndexOutOfBoundsException, IllegalStateException {
        needFrame(frame, STARTED);
        return chip.frames.sumOf(frame) != bits.sumOf(frame);
    }

    public int scrub() throws IllegalStateException {
        needStage(STARTED);
        int loaded = 0;
        for (int frame = 0; frame < FRAMES; frame++) {
            if (chip.frames.sumOf(frame) != bits.sumOf(frame)) {
                chip.frames.copyFrame(bits, frame);
                loaded++;
            }
        }
        return loaded;
    }

    public boolean agrees() throws IllegalStateException {
        needStage(STARTED);
        runner.findValues(chip.input);
        chip.findTables();
        for (int output = 0; output < circuit.outputs; output++) {
            if (runner.outputValue(output) != chip.outputValue(output)) {
                return false;
            }
        }
        for (int i = 0; i < circuit.registers; i++) {
            int register = circuit.registerNode[i];
            if (runner.held[register] != chip.register[places.cellOfNode(register)]) {
                return false;
            }
        }
        return true;
    }

    public float fill() throws IllegalStateException {
        needStage(ROUTED);
        int taken = 0;
        for (int node = 0; node < circuit.nodes; node++) {
            taken += routes.edgesOf(node);
        }
        return (float) taken / (float) WIRES;
    }

    public boolean isConsistent() {
        if (!circuit.isSound()) {
            return false;
        }
        if (stage >= MAPPED && !places.isSound()) {
            return false;
        }
        return stage < ROUTED || !routes.isCrowded();
    }

    // ---- what several calls refuse alike

    private void needStage(int needed) {
        if (stage < needed) {
            throw new IllegalStateException();
        }
    }

    private void needBlock(int block) {
        if (stage < MAPPED) {
            throw new IllegalStateException();
        }
        if (block < 0 || block >= blocks.count) {
            throw new IndexOutOfBoundsException();
        }
    }

    private void needFrame(int frame, int needed) {
        if (frame < 0 || frame >= FRAMES) {
            throw new IndexOutOfBoundsException();
        }
        needStage(needed);
    }

    private void needOutput(int output) {
        if (output < 0 || output >= circuit.outputs) {
            throw new IndexOutOfBoundsException();
        }
        needStage(STARTED);
    }

    private static boolean isCell(int cell) {
        return cell >= 0 && cell < CELLS;
    }

    private static boolean isEdge(int edge) {
        return edge >= 0 && edge < EDGES;
    }

    /** The nodes and outputs as they were told. */
    private static final class Circuit {
        final char[] kind = new char[MAX_NODES];
        final int[] first = new int[MAX_NODES];
        final int[] second = new int[MAX_NODES];
        final int[] feeder = new int[MAX_NODES];
        final int[] initial = new int[MAX_NODES];
        final int[] clockOf = new int[MAX_NODES];
        final int[] numberOf = new int[MAX_NODES];
        final int[] inputNode = new int[MAX_INPUTS];
        final int[] registerNode = new int[MAX_REGISTERS];
        final int[] outputNode = new int[MAX_OUTPUTS];
        int nodes;
        int inputs;
        int registers;
        int outputs;

        boolean isNode(int node) {
            return node >= 0 && node < nodes;
        }

        boolean isGate(int node) {
            return kind[node] != 'i' && kind[node] != 'r';
        }

        int putInput() {
            kind[nodes] = 'i';
            numberOf[nodes] = inputs;
            inputNode[inputs] = nodes;
            inputs++;
            return nodes++;
        }

        int putRegister(boolean isOne, int clock) {
            kind[nodes] = 'r';
            initial[nodes] = isOne ? 1 : 0;
            clockOf[nodes] = clock;
            feeder[nodes] = nodes;
            registerNode[registers] = nodes;
            registers++;
            return nodes++;
        }

        int putGate(char gateKind, int one, int other) {
            kind[nodes] = gateKind;
            first[nodes] = one;
            second[nodes] = other;
            return nodes++;
        }

        int putOutput(int node) {
            outputNode[outputs] = node;
            return outputs++;
        }

        /** What a gate makes of its inputs, for all bits of a word at once. */
        int joined(int gate, int[] values) {
            int one = values[first[gate]];
            int other = values[second[gate]];
            char gateKind = kind[gate];
            if (gateKind == 'a') {
                return one & other;
            }
            if (gateKind == 'o') {
                return one | other;
            }
            if (gateKind == 'x') {
                return one ^ other;
            }
            return ~one & WORD_MASK;
        }

        boolean isSound() {
            for (int node = 0; node < nodes; node++) {
                if (isGate(node) && (first[node] >= node || second[node] >= node)) {
                    return false;
                }
                if (kind[node] == 'r' && !isNode(feeder[node])) {
                    return false;
                }
            }
            for (int output = 0; output < outputs; output++) {
                if (!isNode(outputNode[output])) {
                    return false;
                }
            }
            return true;
        }
    }

    /** The cuts of all nodes: a set has the bit n if the node n is in it. */
    private static final class Cuts {
        final long[][] sets = new long[MAX_NODES][BEST_CUTS + 1];
        // The greatest depth of the nodes of each set.
        final int[][] tops = new int[MAX_NODES][BEST_CUTS + 1];
        final int[] count = new int[MAX_NODES];
        final int[] depthOf = new int[MAX_NODES];
        private final Circuit circuit;

        Cuts(Circuit circuit) {
            this.circuit = circuit;
        }

        void findAll() {
            for (int node = 0; node < circuit.nodes; node++) {
                count[node] = 0;
                depthOf[node] = 0;
                if (circuit.isGate(node)) {
                    offerAll(node);
                    depthOf[node] = 1 + tops[node][0];
                }
                sets[node][count[node]] = 1L << node;
                tops[node][count[node]] = depthOf[node];
                count[node]++;
            }
        }

        /** The best candidate of a gate. */
        long own(int gate) {
            return sets[gate][0];
        }

        // The sets of the one input of an 'n' are candidates as they are; a gate with two inputs
        // has all unions, also where both inputs are the same node.
        private void offerAll(int gate) {
            int one = circuit.first[gate];
            int other = circuit.second[gate];
            boolean isSingle = circuit.kind[gate] == 'n';
            for (int i = 0; i < count[one]; i++) {
                if (isSingle) {
                    offer(gate, sets[one][i], tops[one][i]);
                    continue;
                }
                for (int j = 0; j < count[other]; j++) {
                    offer(gate, sets[one][i] | sets[other][j],
                            Math.max(tops[one][i], tops[other][j]));
                }
            }
        }

        private void offer(int gate, long set, int top) {
            if (Long.bitCount(set) > TABLE_INPUTS) {
                return;
            }
            int place = 0;
            while (place < count[gate] && isBehind(gate, place, set, top)) {
                place++;
            }
            boolean isThere = place < count[gate] && sets[gate][place] == set;
            if (isThere || place >= BEST_CUTS) {
                return;
            }
            if (count[gate] < BEST_CUTS) {
                count[gate]++;
            }
            for (int i = count[gate] - 1; i > place; i--) {
                sets[gate][i] = sets[gate][i - 1];
                tops[gate][i] = tops[gate][i - 1];
            }
            sets[gate][place] = set;
            tops[gate][place] = top;
        }

        /** Whether the set at a place of a gate is better than the one that is offered. */
        private boolean isBehind(int gate, int place, long set, int top) {
            if (tops[gate][place] != top) {
                return tops[gate][place] < top;
            }
            int there = Long.bitCount(sets[gate][place]);
            int offered = Long.bitCount(set);
            if (there != offered) {
                return there < offered;
            }
            return sets[gate][place] < set;
        }
    }

    /** The needed gates, their tables, and the blocks that have them and the registers. */
    private static final class Blocks {
        // The word whose bit k is the bit j of k, for each input j.
        private static final int[] PATTERNS = {43690, 52428, 61680, 65280};

        final int[] gate = new int[MAX_NODES];
        final int[] register = new int[MAX_NODES];
        final int[] table = new int[MAX_NODES];
        final int[] inputs = new int[MAX_NODES];
        final int[][] input = new int[MAX_NODES][TABLE_INPUTS];
        final int[] ofNode = new int[MAX_NODES];
        final boolean[] needed = new boolean[MAX_NODES];
        int count;
        private final int[] values = new int[MAX_NODES];
        private final Circuit circuit;

        Blocks(Circuit circuit) {
            this.circuit = circuit;
        }

        void pack(Cuts cuts) {
            markNeeded(cuts);
            count = 0;
            Arrays.fill(ofNode, -1);
            for (int i = 0; i < circuit.registers; i++) {
                putRegister(circuit.registerNode[i], cuts);
            }
            for (int node = 0; node < circuit.nodes; node++) {
                if (needed[node] && ofNode[node] < 0) {
                    putGate(node, cuts.own(node));
                    register[count] = -1;
                    count++;
                }
            }
        }

        // A cut has only lower nodes, so one pass from above sees every needed gate.
        private void markNeeded(Cuts cuts) {
            for (int node = 0; node < MAX_NODES; node++) {
                needed[node] = false;
            }
            for (int i = 0; i < circuit.outputs; i++) {
                needed[circuit.outputNode[i]] = circuit.isGate(circuit.outputNode[i]);
            }
            for (int i = 0; i < circuit.registers; i++) {
                int fed = circuit.feeder[circuit.registerNode[i]];
                needed[fed] = circuit.isGate(fed);
            }
            for (int node = circuit.nodes - 1; node >= 0; node--) {
                if (needed[node]) {
                    markCut(cuts.own(node), node);
                }
            }
        }

        private void markCut(long cut, int top) {
            for (int node = 0; node < top; node++) {
                if (isIn(cut, node) && circuit.isGate(node)) {
                    needed[node] = true;
                }
            }
        }

        private void putRegister(int node, Cuts cuts) {
            int fed = circuit.feeder[node];
            register[count] = node;
            ofNode[node] = count;
            if (needed[fed] && ofNode[fed] < 0) {
                putGate(fed, cuts.own(fed));
            } else {
                gate[count] = -1;
                table[count] = PATTERNS[0];
                inputs[count] = 1;
                input[count][0] = fed;
            }
            count++;
        }

        // All 16 rows of the table are found at once, as the bits of words; the nodes of the cut
        // are taken as free, whatever lies behind them.
        private void putGate(int node, long cut) {
            int found = 0;
            for (int at = 0; at <= node; at++) {
                if (isIn(cut, at) && found < TABLE_INPUTS) {
                    values[at] = PATTERNS[found];
                    input[count][found] = at;
                    found++;
                } else {
                    values[at] = circuit.isGate(at) ? circuit.joined(at, values) : 0;
                }
            }
            gate[count] = node;
            table[count] = values[node];
            inputs[count] = found;
            ofNode[node] = count;
        }

        private static boolean isIn(long cut, int node) {
            return (cut >> node & 1L) != 0L;
        }
    }

    /** Which block is in which cell, and what follows for lengths and clocks. */
    private static final class Places {
        final int[] cell = new int[MAX_NODES];
        final int[] blockIn = new int[CELLS];
        final boolean[] isFixed = new boolean[MAX_NODES];
        private final int[] leftmost = new int[MAX_NODES];
        private final int[] rightmost = new int[MAX_NODES];
        private final int[] lowest = new int[MAX_NODES];
        private final int[] highest = new int[MAX_NODES];
        private final int[] clocksIn = new int[CLOCKS];
        private final Circuit circuit;
        private final Blocks blocks;

        Places(Circuit circuit, Blocks blocks) {
            this.circuit = circuit;
            this.blocks = blocks;
        }

        void putAnew() {
            Arrays.fill(blockIn, -1);
            for (int block = 0; block < blocks.count && block < CELLS; block++) {
                cell[block] = block;
                blockIn[block] = block;
                isFixed[block] = false;
            }
        }

        boolean holdsFixed(int at) {
            return blockIn[at] >= 0 && isFixed[blockIn[at]];
        }

        void exchange(int one, int other) {
            int moved = blockIn[one];
            blockIn[one] = blockIn[other];
            blockIn[other] = moved;
            if (blockIn[one] >= 0) {
                cell[blockIn[one]] = one;
            }
            if (blockIn[other] >= 0) {
                cell[blockIn[other]] = other;
            }
        }

        int cellOfNode(int node) {
            int block = blocks.ofNode[node];
            return block < 0 ? 0 : cell[block];
        }

        static int crossingAt(int cell) {
            return CROSSING_SIDE * (cell / SIDE) + cell % SIDE;
        }

        static int crossingOfOutput(int output) {
            return LEVEL_EDGES + output;
        }

        /** The crossing from which the net of a node comes. */
        int sourceCrossing(int node) {
            if (circuit.kind[node] == 'i') {
                return circuit.numberOf[node];
            }
            return crossingAt(cellOfNode(node));
        }

        /** The code of what drives the net of a node. */
        int sourceCode(int node) {
            if (circuit.kind[node] == 'i') {
                return INPUT_CODE + circuit.numberOf[node];
            }
            int base = circuit.kind[node] == 'r' ? REGISTER_CODE : TABLE_CODE;
            return base + 2 * cellOfNode(node);
        }

        /** The node that a code of a cell or an input tells, or -1. */
        int nodeOfCode(int code) {
            if (code >= INPUT_CODE && code < INPUT_CODE + circuit.inputs) {
                return circuit.inputNode[code - INPUT_CODE];
            }
            if (code < TABLE_CODE || code >= TABLE_CODE + 2 * CELLS) {
                return -1;
            }
            int block = blockIn[(code - TABLE_CODE) / 2];
            if (block < 0) {
                return -1;
            }
            return code % 2 == 0 ? blocks.gate[block] : blocks.register[block];
        }

        void putPins(Routes routes) {
            for (int node = 0; node < circuit.nodes; node++) {
                routes.source[node] = sourceCrossing(node);
            }
            for (int block = 0; block < blocks.count; block++) {
                for (int i = 0; i < blocks.inputs[block]; i++) {
                    routes.addSink(blocks.input[block][i], crossingAt(cell[block]));
                }
            }
            for (int output = 0; output < circuit.outputs; output++) {
                routes.addSink(circuit.outputNode[output], crossingOfOutput(output));
            }
        }

        /** Finds the length of each net, for lengthOf, and returns their sum. */
        int findLengths() {
            for (int node = 0; node < circuit.nodes; node++) {
                int source = sourceCrossing(node);
                leftmost[node] = source / CROSSING_SIDE;
                rightmost[node] = leftmost[node];
                lowest[node] = source % CROSSING_SIDE;
                highest[node] = lowest[node];
            }
            for (int block = 0; block < blocks.count; block++) {
                for (int i = 0; i < blocks.inputs[block]; i++) {
                    stretchTo(blocks.input[block][i], crossingAt(cell[block]));
                }
            }
            for (int output = 0; output < circuit.outputs; output++) {
                stretchTo(circuit.outputNode[output], crossingOfOutput(output));
            }
            int sum = 0;
            for (int node = 0; node < circuit.nodes; node++) {
                sum += lengthOf(node);
            }
            return sum;
        }

        private void stretchTo(int node, int crossing) {
            int column = crossing / CROSSING_SIDE;
            int row = crossing % CROSSING_SIDE;
            leftmost[node] = Math.min(leftmost[node], column);
            rightmost[node] = Math.max(rightmost[node], column);
            lowest[node] = Math.min(lowest[node], row);
            highest[node] = Math.max(highest[node], row);
        }

        /** The length of the net of a node; 0 too if it has none. */
        int lengthOf(int node) {
            return rightmost[node] - leftmost[node] + highest[node] - lowest[node];
        }

        int clockExcess() {
            Arrays.fill(clocksIn, 0);
            for (int i = 0; i < circuit.registers; i++) {
                int register = circuit.registerNode[i];
                clocksIn[cellOfNode(register) / (2 * SIDE)] |= 1 << circuit.clockOf[register];
            }
            int sum = 0;
            for (int region = 0; region < clocksIn.length; region++) {
                sum += Math.max(0, Integer.bitCount(clocksIn[region]) - 2);
            }
            return sum;
        }

        int swapByChance(int seed, int steps, int heat) {
            long chance = seed;
            int warmth = heat;
            int swaps = 0;
            for (int step = 1; step <= steps; step++) {
                chance = nextChance(chance);
                int one = cellTold(chance);
                chance = nextChance(chance);
                int other = cellTold(chance);
                if (maySwap(one, other) && swapIfGood(one, other, warmth)) {
                    swaps++;
                }
                if (step % 8 == 0 && warmth > 1) {
                    warmth--;
                }
            }
            return swaps;
        }

        private static long nextChance(long chance) {
            return (chance * 1103515245L + 12345L) % 2147483648L;
        }

        private static int cellTold(long chance) {
            return (int) (chance / 65536L % CELLS);
        }

        private boolean maySwap(int one, int other) {
            if (one == other || (blockIn[one] < 0 && blockIn[other] < 0)) {
                return false;
            }
            return !holdsFixed(one) && !holdsFixed(other);
        }

        private boolean swapIfGood(int one, int other, int warmth) {
            int excessBefore = clockExcess();
            int costBefore = findLengths();
            exchange(one, other);
            if (clockExcess() <= excessBefore && findLengths() - costBefore < warmth) {
                return true;
            }
            exchange(one, other);
            return false;
        }

        boolean isSound() {
            int held = 0;
            for (int at = 0; at < CELLS; at++) {
                int block = blockIn[at];
                if (block >= blocks.count || (block >= 0 && cell[block] != at)) {
                    return false;
                }
                held += block >= 0 ? 1 : 0;
            }
            return held == blocks.count;
        }
    }

    /** The trees of all nets, found in rounds with rising prices. */
    private static final class Routes {
        // Of each net and crossing, the edge that leads towards the source, or -1: so a tree is
        // kept without a list, and each of its edges stands at just one crossing.
        final int[][] back = new int[MAX_NODES][CROSSINGS];
        final int[] source = new int[MAX_NODES];
        final int[] users = new int[EDGES];
        // The crossings of the sinks of each net, as bits; 0 if there is no net.
        private final long[] sinks = new long[MAX_NODES];
        private final int[] price = new int[EDGES];
        private final int[] toll = new int[CROSSINGS];
        private final int[] wayBack = new int[CROSSINGS];
        private final boolean[] isDone = new boolean[CROSSINGS];
        private final int[] open = new int[CROSSINGS];
        private int opened;
        private int round;
        private final Circuit circuit;

        Routes(Circuit circuit) {
            this.circuit = circuit;
        }

        void clear() {
            for (int node = 0; node < MAX_NODES; node++) {
                Arrays.fill(back[node], -1);
            }
            Arrays.fill(users, 0);
            Arrays.fill(price, 0);
            Arrays.fill(sinks, 0L);
        }

        void addSink(int node, int crossing) {
            sinks[node] |= 1L << crossing;
        }

        int makeRounds(int allowed) {
            for (int made = 1; made <= allowed; made++) {
                round = made;
                for (int net = 0; net < circuit.nodes; net++) {
                    giveUp(net);
                    layTree(net);
                }
                if (!isCrowded()) {
                    return made;
                }
                raisePrices();
            }
            return allowed;
        }

        boolean isCrowded() {
            for (int edge = 0; edge < EDGES; edge++) {
                if (users[edge] > WIRES_OF_EDGE) {
                    return true;
                }
            }
            return false;
        }

        private void raisePrices() {
            for (int edge = 0; edge < EDGES; edge++) {
                price[edge] += Math.max(0, users[edge] - WIRES_OF_EDGE);
            }
        }

        private void giveUp(int net) {
            for (int crossing = 0; crossing < CROSSINGS; crossing++) {
                int edge = back[net][crossing];
                if (isEdge(edge)) {
                    users[edge]--;
                    back[net][crossing] = -1;
                }
            }
        }

        private void layTree(int net) {
            for (int crossing = 0; crossing < CROSSINGS; crossing++) {
                if ((sinks[net] >> crossing & 1L) != 0L && !isInTree(net, crossing)) {
                    addWay(net, crossing);
                }
            }
        }

        private boolean isInTree(int net, int crossing) {
            return crossing == source[net] || back[net][crossing] >= 0;
        }

        private void addWay(int net, int sink) {
            openTree(net);
            for (int i = 0; i < CROSSINGS && opened > 0; i++) {
                int crossing = takeCheapest();
                isDone[crossing] = true;
                if (crossing == sink) {
                    break;
                }
                openNeighbours(crossing);
            }
            takeWay(net, sink);
        }

        private void openTree(int net) {
            opened = 0;
            for (int crossing = 0; crossing < CROSSINGS; crossing++) {
                isDone[crossing] = false;
                toll[crossing] = -1;
                wayBack[crossing] = -1;
                if (isInTree(net, crossing)) {
                    toll[crossing] = 0;
                    open[opened] = crossing;
                    opened++;
                }
            }
        }

        private int takeCheapest() {
            int best = 0;
            for (int i = 1; i < opened; i++) {
                int gain = toll[open[best]] - toll[open[i]];
                if (gain > 0 || (gain == 0 && open[i] < open[best])) {
                    best = i;
                }
            }
            int crossing = open[best];
            opened--;
            open[best] = open[opened];
            return crossing;
        }

        private void openNeighbours(int crossing) {
            int column = crossing / CROSSING_SIDE;
            int row = crossing % CROSSING_SIDE;
            int upright = LEVEL_EDGES + SIDE * column + row;
            if (column > 0) {
                offerWay(crossing, crossing - CROSSING_SIDE, crossing - CROSSING_SIDE);
            }
            if (column < SIDE) {
                offerWay(crossing, crossing, crossing + CROSSING_SIDE);
            }
            if (row > 0) {
                offerWay(crossing, upright - 1, crossing - 1);
            }
            if (row < SIDE) {
                offerWay(crossing, upright, crossing + 1);
            }
        }

        private void offerWay(int from, int edge, int to) {
            if (isDone[to]) {
                return;
            }
            int sum = toll[from] + tollOf(edge);
            if (toll[to] < 0) {
                open[opened] = to;
                opened++;
            } else if (toll[to] <= sum) {
                return;
            }
            toll[to] = sum;
            wayBack[to] = edge;
        }

        private int tollOf(int edge) {
            int beyond = users[edge] + 1 - WIRES_OF_EDGE;
            return 1 + price[edge] + (beyond > 0 ? 4 * round * beyond : 0);
        }

        private void takeWay(int net, int sink) {
            int crossing = sink;
            for (int i = 0; i < CROSSINGS && !isInTree(net, crossing); i++) {
                int edge = wayBack[crossing];
                if (!isEdge(edge)) {
                    return;
                }
                back[net][crossing] = edge;
                users[edge]++;
                crossing = otherEnd(edge, crossing);
            }
        }

        static int lowEnd(int edge) {
            if (edge < LEVEL_EDGES) {
                return edge;
            }
            int upright = edge - LEVEL_EDGES;
            return CROSSING_SIDE * (upright / SIDE) + upright % SIDE;
        }

        static int otherEnd(int edge, int crossing) {
            int low = lowEnd(edge);
            int high = low + (edge < LEVEL_EDGES ? CROSSING_SIDE : 1);
            return crossing == low ? high : low;
        }

        boolean has(int net, int edge) {
            int low = lowEnd(edge);
            return back[net][low] == edge || back[net][otherEnd(edge, low)] == edge;
        }

        int edgesOf(int net) {
            int sum = 0;
            for (int crossing = 0; crossing < CROSSINGS; crossing++) {
                sum += back[net][crossing] >= 0 ? 1 : 0;
            }
            return sum;
        }

        int wire(int net, int edge) {
            int before = 0;
            for (int other = 0; other < net; other++) {
                before += has(other, edge) ? 1 : 0;
            }
            return before;
        }

        /** The number of edges of the way from the source of a net. */
        int wayTo(int net, int crossing) {
            int at = crossing;
            int passed = 0;
            while (passed < CROSSINGS && isEdge(back[net][at])) {
                at = otherEnd(back[net][at], at);
                passed++;
            }
            return passed;
        }
    }

    /** When the values of nodes are there, for routed nets. */
    private static final class Times {
        final int[] ofNode = new int[MAX_NODES];
        private final Circuit circuit;
        private final Blocks blocks;
        private final Places places;
        private final Routes routes;

        Times(Circuit circuit, Blocks blocks, Places places, Routes routes) {
            this.circuit = circuit;
            this.blocks = blocks;
            this.places = places;
            this.routes = routes;
        }

        // The inputs of a gate's table are lower nodes, so their times are there before its own.
        void findAll() {
            for (int node = 0; node < circuit.nodes; node++) {
                int block = blocks.ofNode[node];
                boolean isTimed = circuit.isGate(node) && block >= 0;
                ofNode[node] = isTimed ? ofTable(block) : 0;
            }
        }

        private int ofTable(int block) {
            int crossing = Places.crossingAt(places.cell[block]);
            int late = 0;
            for (int i = 0; i < blocks.inputs[block]; i++) {
                late = Math.max(late, arrival(blocks.input[block][i], crossing));
            }
            return TABLE_DELAY + late;
        }

        private int arrival(int node, int crossing) {
            return ofNode[node] + routes.wayTo(node, crossing);
        }

        int latest() {
            int late = 0;
            for (int output = 0; output < circuit.outputs; output++) {
                int crossing = Places.crossingOfOutput(output);
                late = Math.max(late, arrival(circuit.outputNode[output], crossing));
            }
            for (int i = 0; i < circuit.registers; i++) {
                int block = blocks.ofNode[circuit.registerNode[i]];
                if (block >= 0) {
                    late = Math.max(late, ofTable(block));
                }
            }
            return late;
        }
    }

    /** The words of all frames, of the bitstream or of the chip. */
    private static final class Frames {
        final int[][] words = new int[FRAMES][LONGEST_FRAME];

        static int lengthOf(int frame) {
            if (frame < SIDE) {
                return LONGEST_FRAME;
            }
            if (frame == OUTPUT_FRAME) {
                return MAX_OUTPUTS;
            }
            int uprights = 2 * SIDE;
            return frame == OUTPUT_FRAME - 1 ? uprights : uprights + 2 * CROSSING_SIDE;
        }

        void clear() {
            for (int frame = 0; frame < FRAMES; frame++) {
                Arrays.fill(words[frame], 0);
            }
        }

        void copyFrame(Frames from, int frame) {
            System.arraycopy(from.words[frame], 0, words[frame], 0, LONGEST_FRAME);
        }

        int wordsInUse() {
            int used = 0;
            for (int frame = 0; frame < FRAMES; frame++) {
                for (int i = 0; i < LONGEST_FRAME; i++) {
                    used += words[frame][i] != 0 ? 1 : 0;
                }
            }
            return used;
        }

        int sumOf(int frame) {
            int sum = 1;
            int length = lengthOf(frame);
            for (int i = 0; i < length; i++) {
                sum = (31 * sum + words[frame][i]) % 65521;
            }
            return sum;
        }

        int cellWord(int cell, int index) {
            return words[cell / SIDE][CELL_WORDS * (cell % SIDE) + index];
        }

        void putCellWord(int cell, int index, int word) {
            words[cell / SIDE][CELL_WORDS * (cell % SIDE) + index] = word;
        }

        int wireWord(int code) {
            int edge = (code - 1) / 2;
            return words[frameOfEdge(edge)][indexOfEdge(edge) + (code - 1) % 2];
        }

        void putWireWord(int code, int word) {
            int edge = (code - 1) / 2;
            words[frameOfEdge(edge)][indexOfEdge(edge) + (code - 1) % 2] = word;
        }

        static boolean isWire(int code) {
            return code >= 1 && code <= WIRES;
        }

        private static int frameOfEdge(int edge) {
            return SIDE + Routes.lowEnd(edge) / CROSSING_SIDE;
        }

        // The last column of crossings has no edges to a next one before its uprights.
        private static int indexOfEdge(int edge) {
            int place = Routes.lowEnd(edge) % CROSSING_SIDE;
            boolean isLevel = edge < LEVEL_EDGES;
            boolean isLast = Routes.lowEnd(edge) >= LEVEL_EDGES;
            return 2 * (isLevel || isLast ? place : CROSSING_SIDE + place);
        }

        /** The code behind all wires from a code on, or 0 where they never end. */
        int endOf(int code) {
            int at = code;
            for (int passed = 0; passed < 200 && isWire(at); passed++) {
                at = wireWord(at);
            }
            return isWire(at) ? 0 : at;
        }
    }

    /** Writes what is routed into the frames of the bitstream. */
    private static final class Builder {
        private final Circuit circuit;
        private final Blocks blocks;
        private final Places places;
        private final Routes routes;
        private final Frames frames;

        Builder(Circuit circuit, Blocks blocks, Places places, Routes routes, Frames frames) {
            this.circuit = circuit;
            this.blocks = blocks;
            this.places = places;
            this.routes = routes;
            this.frames = frames;
        }

        void fillFrames() {
            frames.clear();
            for (int block = 0; block < blocks.count; block++) {
                putBlock(block);
            }
            for (int net = 0; net < circuit.nodes; net++) {
                putNet(net);
            }
            for (int output = 0; output < circuit.outputs; output++) {
                int node = circuit.outputNode[output];
                frames.words[OUTPUT_FRAME][output] =
                        codeAt(node, Places.crossingOfOutput(output));
            }
        }

        private void putBlock(int block) {
            int cell = places.cell[block];
            frames.putCellWord(cell, 0, blocks.table[block]);
            for (int i = 0; i < blocks.inputs[block]; i++) {
                int code = codeAt(blocks.input[block][i], Places.crossingAt(cell));
                frames.putCellWord(cell, 1 + i, code);
            }
            int register = blocks.register[block];
            if (register >= 0) {
                int word = 1 + 2 * circuit.initial[register] + 4 * circuit.clockOf[register];
                frames.putCellWord(cell, CELL_WORDS - 1, word);
            }
        }

        private void putNet(int net) {
            for (int crossing = 0; crossing < CROSSINGS; crossing++) {
                int edge = routes.back[net][crossing];
                if (isEdge(edge)) {
                    int before = Routes.otherEnd(edge, crossing);
                    frames.putWireWord(codeAt(net, crossing), codeAt(net, before));
                }
            }
        }

        /** The code by which the net of a node arrives at a crossing of its tree. */
        private int codeAt(int node, int crossing) {
            int edge = routes.back[node][crossing];
            if (!isEdge(edge)) {
                return places.sourceCode(node);
            }
            return 1 + 2 * edge + routes.wire(node, edge);
        }
    }

    /** The chip: it runs from its own frames alone. */
    private static final class Chip {
        final Frames frames = new Frames();
        final int[] input = new int[MAX_INPUTS];
        final int[] register = new int[CELLS];
        long ticks;
        private final int[] table = new int[CELLS];
        private final int[] tableBefore = new int[CELLS];
        private final int[] ends = new int[CELLS * TABLE_INPUTS];

        void reset(Frames bits) {
            for (int frame = 0; frame < FRAMES; frame++) {
                frames.copyFrame(bits, frame);
            }
            Arrays.fill(input, 0);
            Arrays.fill(register, 0);
            ticks = 0;
        }

        // Where nothing changed any more, nothing changes in the times that remain.
        void findTables() {
            findEnds();
            Arrays.fill(table, 0);
            boolean isMoving = true;
            for (int time = 0; time < 40 && isMoving; time++) {
                isMoving = renewTables();
            }
        }

        private void findEnds() {
            for (int cell = 0; cell < CELLS; cell++) {
                for (int i = 0; i < TABLE_INPUTS; i++) {
                    ends[TABLE_INPUTS * cell + i] = frames.endOf(frames.cellWord(cell, 1 + i));
                }
            }
        }

        private boolean renewTables() {
            System.arraycopy(table, 0, tableBefore, 0, CELLS);
            boolean isMoving = false;
            for (int cell = 0; cell < CELLS; cell++) {
                int row = 0;
                for (int i = 0; i < TABLE_INPUTS; i++) {
                    row |= valueOfEnd(ends[TABLE_INPUTS * cell + i], tableBefore) << i;
                }
                table[cell] = frames.cellWord(cell, 0) >> row & 1;
                if (table[cell] != tableBefore[cell]) {
                    isMoving = true;
                }
            }
            return isMoving;
        }

        private int valueOfEnd(int code, int[] tables) {
            if (code >= INPUT_CODE && code < INPUT_CODE + MAX_INPUTS) {
                return input[code - INPUT_CODE];
            }
            if (code < TABLE_CODE || code >= TABLE_CODE + 2 * CELLS) {
                return 0;
            }
            int cell = (code - TABLE_CODE) / 2;
            return code % 2 == 0 ? tables[cell] : register[cell];
        }

        int outputValue(int output) {
            return valueOfEnd(frames.endOf(frames.words[OUTPUT_FRAME][output]), table);
        }

        void takeTick(int clock) {
            findTables();
            for (int cell = 0; cell < CELLS; cell++) {
                int word = frames.cellWord(cell, CELL_WORDS - 1);
                if (word % 2 == 1 && word / 4 % 4 == clock) {
                    register[cell] = table[cell];
                }
            }
            ticks++;
        }
    }

    /** The circuit, run gate by gate. */
    private static final class Runner {
        final int[] held = new int[MAX_NODES];
        private final int[] values = new int[MAX_NODES];
        private final Circuit circuit;

        Runner(Circuit circuit) {
            this.circuit = circuit;
        }

        void reset() {
            for (int i = 0; i < circuit.registers; i++) {
                held[circuit.registerNode[i]] = circuit.initial[circuit.registerNode[i]];
            }
        }

        void findValues(int[] input) {
            for (int node = 0; node < circuit.nodes; node++) {
                if (circuit.kind[node] == 'i') {
                    values[node] = input[circuit.numberOf[node]];
                } else if (circuit.kind[node] == 'r') {
                    values[node] = held[node];
                } else {
                    values[node] = circuit.joined(node, values) & 1;
                }
            }
        }

        int outputValue(int output) {
            return values[circuit.outputNode[output]];
        }

        void takeTick(int clock, int[] input) {
            findValues(input);
            for (int i = 0; i < circuit.registers; i++) {
                int register = circuit.registerNode[i];
                if (circuit.clockOf[register] == clock) {
                    held[register] = values[circuit.feeder[register]];
                }
            }
        }
    }
}
