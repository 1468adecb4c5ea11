import java.util.NoSuchElementException;

/**
 * Promises 1 to 42, sentence by sentence: each number that a call refuses, with the call just
 * inside and the one just outside; each state that it refuses, with the stage just before and the
 * one that is enough; and which exception comes first where two would be due.
 */
public final class BoundariesOfCalls {
    private static final Class<?> INDEX = IndexOutOfBoundsException.class;
    private static final Class<?> STATE = IllegalStateException.class;
    private static final Class<?> ARGUMENT = IllegalArgumentException.class;
    private static final Class<?> NONE = NoSuchElementException.class;
    private static final Class<?> UNSUPPORTED = UnsupportedOperationException.class;
    private static final int MIN = Integer.MIN_VALUE;
    private static final int MAX = Integer.MAX_VALUE;

    private static final int CHANGED = 0;
    private static final int MAPPED = 1;
    private static final int ROUTED = 2;
    private static final int BUILT = 3;
    private static final int STARTED = 4;

    private static final String XOR = "i i x0,1 >2";
    private static final int[] FRAME_LENGTHS = {
        36, 36, 36, 36, 36, 36, 26, 26, 26, 26, 26, 26, 12, 6};

    // Eight registers and 40 gates which need 37 blocks even without outputs, and 36 if the
    // register 0 feeds itself (found by searching with random changes).
    private static final String CROWD = "r0 r0 r0 r0 r0 r0 r0 r0 "
            + "a2,7 a6,1 a8,1 a4,8 a11,1 a4,12 a5,11 a13,8 a9,11 a2,6 a11,0 a6,15 a17,16 a8,16 "
            + "a10,19 a19,5 a6,13 a14,12 a20,25 a16,23 a27,21 a13,11 a11,1 a17,8 a31,30 a29,18 "
            + "a30,16 a33,22 a25,9 a34,4 a24,36 a26,30 a10,31 a15,9 a36,40 a36,6 a19,27 a32,28 "
            + "a42,37 a45,35 f0,44 f1,38 f2,38 f3,47 f4,26 f5,46 f6,38 f7,1";

    private static String sentence;
    private static int asked;
    private static int wrong;

    private interface Call {
        Object of();
    }

    private interface Numbered {
        Object of(int number);
    }

    private interface Use {
        Object of(Latticefit x);
    }

    private static void says(String words) {
        sentence = words;
    }

    private static void due(String call, Object got, Object want) {
        asked++;
        if (!want.equals(got)) {
            wrong++;
            System.out.println("[" + sentence + "] " + call + " answered " + got + ", due is "
                    + want);
        }
    }

    private static Object answerOf(Call call) {
        try {
            return call.of();
        } catch (RuntimeException e) {
            return e.getClass();
        }
    }

    private static void answers(String call, Object want, Call of) {
        due(call, answerOf(of), want);
    }

    private static void refused(String call, Class<?> want, Call of) {
        due(call, answerOf(of), want);
    }

    private static void allowed(String call, Call of) {
        due(call + " is allowed", !(answerOf(of) instanceof Class), true);
    }

    /** The numbers below 0 and from a count on are refused, and 0 and the last one are not. */
    private static void range(String call, Class<?> refusal, int count, Numbered of) {
        for (int number : new int[] {MIN, -1, count, MAX}) {
            refused(call + " of " + number, refusal, () -> of.of(number));
        }
        if (count > 0) {
            allowed(call + " of 0", () -> of.of(0));
            allowed(call + " of " + (count - 1), () -> of.of(count - 1));
        }
    }

    /** In each stage below the needed one a call is refused, and from it on it is not. */
    private static void needs(String call, int needed, Use use) {
        for (int stage = CHANGED; stage <= STARTED; stage++) {
            Latticefit x = at(stage, XOR);
            if (stage < needed) {
                refused(call + " in stage " + stage, STATE, () -> use.of(x));
            } else {
                allowed(call + " in stage " + stage, () -> use.of(x));
            }
        }
    }

    /** In each stage below a limit, two conditions hold, and this exception is listed first. */
    private static void first(String call, Class<?> want, int below, Use use) {
        for (int stage = CHANGED; stage < below; stage++) {
            Latticefit x = at(stage, XOR);
            refused(call + " in stage " + stage, want, () -> use.of(x));
        }
    }

    // ---- circuits: i (input), r and R (register, zero or one at first, with its clock), gates
    // with their inputs, f (feed), > (output)

    private static Latticefit of(String circuit) {
        Latticefit x = new Latticefit();
        for (String part : circuit.split(" ")) {
            put(x, part.charAt(0), part.substring(1).split(","));
        }
        return x;
    }

    private static void put(Latticefit x, char what, String[] numbers) {
        int one = numbers[0].isEmpty() ? 0 : Integer.parseInt(numbers[0]);
        int other = numbers.length < 2 ? 0 : Integer.parseInt(numbers[1]);
        switch (what) {
            case 'i' -> x.addInput();
            case 'r' -> x.addRegister(false, one);
            case 'R' -> x.addRegister(true, one);
            case 'f' -> x.feed(one, other);
            case '>' -> x.addOutput(one);
            default -> x.addGate(what, one, other);
        }
    }

    private static Latticefit at(int stage, String circuit) {
        Latticefit x = of(circuit);
        if (stage >= MAPPED) {
            x.map();
        }
        if (stage >= ROUTED) {
            x.route(20);
        }
        if (stage >= BUILT) {
            x.build();
        }
        if (stage >= STARTED) {
            x.start();
        }
        return x;
    }

    /** Inputs, then registers, then gates 'n' of the node 0 up to so many nodes. */
    private static Latticefit nodes(int count, int inputs, int registers) {
        Latticefit x = new Latticefit();
        for (int i = 0; i < inputs; i++) {
            x.addInput();
        }
        for (int i = 0; i < registers; i++) {
            x.addRegister(false, 0);
        }
        for (int i = inputs + registers; i < count; i++) {
            x.addGate('n', 0, 0);
        }
        return x;
    }

    public static void main(String[] args) {
        newObject();
        addInput();
        addRegister();
        addGateKinds();
        addGateNodes();
        addGateFull();
        feed();
        addOutput();
        kindOf();
        map();
        nodesOfMapped();
        blocksOfMapped();
        indicesOfInputs();
        gatesAndRegisters();
        fixCells();
        fixBlocks();
        fixFixed();
        anneal();
        placesOfMapped();
        route();
        edges();
        wireOf();
        timeOf();
        routedOnly();
        worstStretch();
        wordAt();
        check();
        start();
        setInput();
        tick();
        outputs();
        chipRegister();
        sourceOf();
        sourcesThatAreNone();
        sourcesOfFarCells();
        flip();
        isBad();
        scrub();
        agrees();
        fill();
        isConsistent();
        fullCircuitPlaced();
        fullCircuitStarted();
        allCells();
        calls512();
        System.out.println(asked - wrong + " of " + asked + " answers are as due");
        if (wrong != 0) {
            System.exit(1);
        }
    }

    // ---- circuit

    private static void newObject() {
        says("1: Creates a circuit without nodes");
        Latticefit x = new Latticefit();
        refused("kindOf(0)", INDEX, () -> x.kindOf(0));
        refused("addOutput(0)", INDEX, () -> x.addOutput(0));
        refused("feed(0, 0)", INDEX, () -> x.feed(0, 0));
        refused("addGate('n', 0, 0)", INDEX, () -> x.addGate('n', 0, 0));
        refused("depth(0)", INDEX, () -> x.depth(0));
        refused("isNeeded(0)", INDEX, () -> x.isNeeded(0));
        refused("wireOf(0, 0)", INDEX, () -> x.wireOf(0, 0));
        refused("timeOf(0)", INDEX, () -> x.timeOf(0));
        refused("setInput(0, true)", INDEX, () -> x.setInput(0, true));
        refused("circuitOutput(0)", INDEX, () -> x.circuitOutput(0));
        refused("chipOutput(0)", INDEX, () -> x.chipOutput(0));
        answers("isRouted()", false, x::isRouted);
        answers("isConsistent()", true, x::isConsistent);
        newObjectWithoutStages(x);
        answers("addInput()", 0, x::addInput);
        answers("kindOf(0)", 'i', () -> x.kindOf(0));
        refused("kindOf(1)", INDEX, () -> x.kindOf(1));
    }

    private static void newObjectWithoutStages(Latticefit x) {
        refused("map()", STATE, x::map);
        refused("word(0)", STATE, () -> x.word(0));
        refused("inputOf(0, 0)", STATE, () -> x.inputOf(0, 0));
        refused("gateOf(0)", STATE, () -> x.gateOf(0));
        refused("registerOf(0)", STATE, () -> x.registerOf(0));
        refused("fix(0, 0)", STATE, () -> x.fix(0, 0));
        refused("anneal(0, 1, 1)", STATE, () -> x.anneal(0, 1, 1));
        refused("cellOf(0)", STATE, () -> x.cellOf(0));
        refused("cost()", STATE, x::cost);
        refused("excess()", STATE, x::excess);
        refused("route(1)", STATE, () -> x.route(1));
        refused("slowest()", STATE, x::slowest);
        refused("worstStretch()", STATE, x::worstStretch);
        refused("build()", STATE, x::build);
        refused("wordAt(0, 0)", STATE, () -> x.wordAt(0, 0));
        refused("check(0)", STATE, () -> x.check(0));
        refused("start()", STATE, x::start);
        refused("tick(0)", STATE, () -> x.tick(0));
        refused("chipRegister(0)", STATE, () -> x.chipRegister(0));
        refused("sourceOf(0, 0)", STATE, () -> x.sourceOf(0, 0));
        refused("flip(0, 0, 0)", STATE, () -> x.flip(0, 0, 0));
        refused("isBad(0)", STATE, () -> x.isBad(0));
        refused("scrub()", STATE, x::scrub);
        refused("agrees()", STATE, x::agrees);
        refused("fill()", STATE, x::fill);
    }

    private static void addInput() {
        says("2: IllegalStateException if there are 48 nodes");
        Latticefit x = nodes(47, 1, 0);
        answers("addInput() at 47 nodes", 47, x::addInput);
        refused("addInput() at 48 nodes", STATE, x::addInput);
        Latticefit five = nodes(48, 5, 0);
        refused("addInput() at 48 nodes, 5 inputs", STATE, five::addInput);
        says("2: IllegalStateException if there are 6 inputs");
        Latticefit y = nodes(5, 5, 0);
        answers("addInput() at 5 inputs", 5, y::addInput);
        refused("addInput() at 6 inputs", STATE, y::addInput);
        Latticefit z = nodes(46, 5, 8);
        answers("addInput() at 46 nodes, 5 inputs", 46, z::addInput);
        refused("addInput() at 47 nodes, 6 inputs", STATE, z::addInput);
        answers("addGate() behind it", 47, () -> z.addGate('a', 0, 46));
        refused("addInput() at 48 nodes, 6 inputs", STATE, z::addInput);
    }

    private static void addRegister() {
        says("3: IllegalArgumentException if there is no such clock, 0 to 2");
        range("addRegister(true, clock)", ARGUMENT, 3,
                clock -> new Latticefit().addRegister(true, clock));
        answers("addRegister(false, 1)", 0, () -> new Latticefit().addRegister(false, 1));
        refused("addRegister(false, 3)", ARGUMENT, () -> new Latticefit().addRegister(false, 3));
        says("3: IllegalStateException if there are 48 nodes");
        Latticefit x = nodes(47, 1, 7);
        answers("addRegister() at 47 nodes", 47, () -> x.addRegister(true, 2));
        refused("addRegister() at 48 nodes", STATE, () -> x.addRegister(true, 2));
        Latticefit seven = nodes(48, 1, 7);
        refused("addRegister() at 48 nodes, 7 registers", STATE, () -> seven.addRegister(true, 0));
        says("3: IllegalStateException if there are 8 registers");
        Latticefit y = nodes(7, 0, 7);
        answers("addRegister() at 7 registers", 7, () -> y.addRegister(true, 0));
        refused("addRegister() at 8 registers", STATE, () -> y.addRegister(true, 0));
        Latticefit z = nodes(47, 1, 8);
        refused("addRegister() at 47 nodes, 8 registers", STATE, () -> z.addRegister(true, 0));
        answers("addInput() behind it", 47, z::addInput);
        says("3: of two exceptions, the one for the clock");
        for (int clock : new int[] {-1, 3}) {
            refused("at 8 registers, clock " + clock, ARGUMENT, () -> y.addRegister(true, clock));
            refused("at 48 nodes, clock " + clock, ARGUMENT, () -> seven.addRegister(true, clock));
        }
    }

    private static void addGateKinds() {
        says("4: IllegalArgumentException if there is no such kind");
        int node = 1;
        Latticefit x = nodes(1, 1, 0);
        for (char kind : "aoxn".toCharArray()) {
            answers("addGate('" + kind + "', 0, 0)", node, () -> x.addGate(kind, 0, 0));
            answers("kindOf()", kind, () -> x.kindOf(x.addGate(kind, 0, 0)));
            for (int step : new int[] {-1, 1}) {
                char near = (char) (kind + step);
                if ("aoxn".indexOf(near) < 0) {
                    refused("addGate('" + near + "', 0, 0)", ARGUMENT,
                            () -> x.addGate(near, 0, 0));
                }
            }
            node += 2;
        }
        for (char kind : new char[] {'i', 'r', 'A', 'O', 'X', 'N', 0, ' ', 'a' + 256, 65535}) {
            refused("addGate() of the kind " + (int) kind, ARGUMENT, () -> x.addGate(kind, 0, 0));
        }
        says("4: of two exceptions, the one for the kind ahead of that for a node");
        refused("addGate('b', 9, 0)", ARGUMENT, () -> x.addGate('b', 9, 0));
        refused("addGate('b', 0, 9)", ARGUMENT, () -> x.addGate('b', 0, 9));
        refused("addGate('i', -1, -1)", ARGUMENT, () -> x.addGate('i', -1, -1));
    }

    private static void addGateNodes() {
        for (char kind : "aox".toCharArray()) {
            says("4: IndexOutOfBoundsException if there is no such node, for the first input");
            range("addGate('" + kind + "', node, 0)", INDEX, 3,
                    node -> nodes(3, 1, 0).addGate(kind, node, 0));
            says("4: IndexOutOfBoundsException if there is no such node, for the second input");
            range("addGate('" + kind + "', 0, node)", INDEX, 3,
                    node -> nodes(3, 1, 0).addGate(kind, 0, node));
        }
        says("4: IndexOutOfBoundsException if there is no such node, for the input of 'n'");
        range("addGate('n', node, 0)", INDEX, 3, node -> nodes(3, 1, 0).addGate('n', node, 0));
        says("4: its second input; any number for 'n'");
        for (int any : new int[] {MIN, -1, 2, 3, 47, 48, MAX}) {
            answers("addGate('n', 0, " + any + ")", 3, () -> nodes(3, 1, 0).addGate('n', 0, any));
        }
        says("4: a gate that is not told yet is no such node");
        refused("addGate('n', 0, 0) without nodes", INDEX,
                () -> new Latticefit().addGate('n', 0, 0));
        refused("addGate('a', 3, 3), of itself", INDEX, () -> nodes(3, 1, 0).addGate('a', 3, 3));
    }

    private static void addGateFull() {
        says("4: IllegalStateException if there are 48 nodes");
        for (char kind : "aoxn".toCharArray()) {
            Latticefit x = nodes(47, 1, 0);
            answers("addGate('" + kind + "', 46, 0)", 47, () -> x.addGate(kind, 46, 0));
            refused("addGate('" + kind + "', 47, 0)", STATE, () -> x.addGate(kind, 47, 0));
        }
        says("4: of two exceptions, the one for 48 nodes is the last one");
        Latticefit full = nodes(48, 1, 0);
        refused("addGate('m', 0, 0) at 48 nodes", ARGUMENT, () -> full.addGate('m', 0, 0));
        refused("addGate('m', 48, 48) at 48 nodes", ARGUMENT, () -> full.addGate('m', 48, 48));
        refused("addGate('a', 48, 0) at 48 nodes", INDEX, () -> full.addGate('a', 48, 0));
        refused("addGate('a', 0, 48) at 48 nodes", INDEX, () -> full.addGate('a', 0, 48));
        refused("addGate('n', -1, 0) at 48 nodes", INDEX, () -> full.addGate('n', -1, 0));
        refused("addGate('n', 0, 48) at 48 nodes", STATE, () -> full.addGate('n', 0, 48));
    }

    private static void feed() {
        String circuit = "i r0 n0 r1";
        says("5: IndexOutOfBoundsException if there is no such node, for the first one");
        for (int register : new int[] {MIN, -1, 4, MAX}) {
            refused("feed(" + register + ", 0)", INDEX, () -> of(circuit).feed(register, 0));
        }
        answers("feed(3, 0)", 3, () -> of(circuit).feed(3, 0));
        answers("feed(0, 1), the first node", 0, () -> of("r0 i").feed(0, 1));
        says("5: IndexOutOfBoundsException if there is no such node, for the second one");
        range("feed(1, node)", INDEX, 4, node -> of(circuit).feed(1, node));
        says("5: IllegalStateException if the first one is no register");
        Latticefit x = of("i r0 a0,0 o0,0 x0,0 n0");
        for (int node : new int[] {0, 2, 3, 4, 5}) {
            refused("feed(" + node + ", 1)", STATE, () -> x.feed(node, 1));
        }
        answers("feed(1, 5)", 1, () -> x.feed(1, 5));
        answers("feed(1, 5) again", 5, () -> x.feed(1, 5));
        answers("feed(1, 1)", 5, () -> x.feed(1, 1));
        says("5: of two exceptions, the one for a node");
        refused("feed(0, 6), an input", INDEX, () -> x.feed(0, 6));
        refused("feed(2, -1), a gate", INDEX, () -> x.feed(2, -1));
        refused("feed(6, 6)", INDEX, () -> x.feed(6, 6));
    }

    private static void addOutput() {
        says("6: IndexOutOfBoundsException if there is no such node");
        range("addOutput(node)", INDEX, 3, node -> nodes(3, 1, 1).addOutput(node));
        range("addOutput(node) at 48 nodes", INDEX, 48, node -> nodes(48, 6, 8).addOutput(node));
        says("6: IllegalStateException if there are 6 outputs");
        Latticefit x = nodes(2, 1, 1);
        for (int j = 0; j < 6; j++) {
            int output = j;
            answers("addOutput() at " + j + " outputs", j, () -> x.addOutput(output % 2));
        }
        refused("addOutput(0) at 6 outputs", STATE, () -> x.addOutput(0));
        refused("addOutput(1) at 6 outputs", STATE, () -> x.addOutput(1));
        says("6: of two exceptions, the one for a node");
        refused("addOutput(2) at 6 outputs", INDEX, () -> x.addOutput(2));
        refused("addOutput(-1) at 6 outputs", INDEX, () -> x.addOutput(-1));
    }

    private static void kindOf() {
        says("7: IndexOutOfBoundsException if there is no such node");
        for (int count : new int[] {1, 2, 47, 48}) {
            range("kindOf(node) at " + count + " nodes", INDEX, count, nodes(count, 1, 0)::kindOf);
        }
    }

    // ---- tables and blocks

    private static void map() {
        says("8: IllegalStateException if there is no output");
        Latticefit x = of("i n0 r0 f2,1");
        refused("map() at 0 outputs", STATE, x::map);
        x.addOutput(0);
        answers("map() at 1 output", 1, x::map);
        says("8: UnsupportedOperationException if there would be more than 36 blocks");
        Latticefit y = of(CROWD + " >0");
        refused("map() of 37 blocks", UNSUPPORTED, y::map);
        y.feed(0, 0);
        answers("map() of 36 blocks", 36, y::map);
        y.feed(0, 44);
        refused("map() of 37 blocks again", UNSUPPORTED, y::map);
        says("8: of two exceptions, the one for no output");
        Latticefit z = of(CROWD);
        refused("map() of 37 blocks without outputs", STATE, z::map);
        z.addOutput(0);
        refused("map() of 37 blocks with one", UNSUPPORTED, z::map);
    }

    private static void nodesOfMapped() {
        says("9: IndexOutOfBoundsException if there is no such node");
        range("depth(node)", INDEX, 3, at(MAPPED, XOR)::depth);
        says("9: IllegalStateException if the circuit is not mapped");
        needs("depth(0)", MAPPED, x -> x.depth(0));
        says("9: of two exceptions, the one for the node");
        first("depth(-1)", INDEX, MAPPED, x -> x.depth(-1));
        first("depth(3)", INDEX, MAPPED, x -> x.depth(3));
        says("10: IndexOutOfBoundsException if there is no such node");
        range("isNeeded(node)", INDEX, 3, at(MAPPED, XOR)::isNeeded);
        says("10: IllegalStateException if the circuit is not mapped");
        needs("isNeeded(2)", MAPPED, x -> x.isNeeded(2));
        says("10: of two exceptions, the one for the node");
        first("isNeeded(-1)", INDEX, MAPPED, x -> x.isNeeded(-1));
        first("isNeeded(3)", INDEX, MAPPED, x -> x.isNeeded(3));
    }

    /** The same for five calls: word, inputOf, gateOf, registerOf and cellOf. */
    private static void blocksOfMapped() {
        Latticefit full = of(CROWD + " >0 f0,0");
        full.map();
        Latticefit empty = at(MAPPED, "i >0");
        says("11: IndexOutOfBoundsException if the circuit is mapped, and there is no such block");
        range("word(block) of 36 blocks", INDEX, 36, full::word);
        range("word(block) of 1 block", INDEX, 1, at(MAPPED, XOR)::word);
        range("word(block) of no block", INDEX, 0, empty::word);
        says("12: IndexOutOfBoundsException if the circuit is mapped, and there is no such block");
        range("inputOf(block, 0) of 36 blocks", INDEX, 36, block -> full.inputOf(block, 0));
        range("inputOf(block, 0) of no block", INDEX, 0, block -> empty.inputOf(block, 0));
        says("13: IndexOutOfBoundsException if the circuit is mapped, and there is no such block");
        range("gateOf(block) of 1 block", INDEX, 1, at(MAPPED, XOR)::gateOf);
        range("gateOf(block) of no block", INDEX, 0, empty::gateOf);
        refused("gateOf(36) of 36 blocks", INDEX, () -> full.gateOf(36));
        allowed("gateOf(35) of 36 blocks", () -> full.gateOf(35));
        says("14: IndexOutOfBoundsException if the circuit is mapped, and there is no such block");
        range("registerOf(block) of 2 blocks", INDEX, 2, at(MAPPED, "r0 r0 >0")::registerOf);
        range("registerOf(block) of no block", INDEX, 0, empty::registerOf);
        refused("registerOf(36) of 36 blocks", INDEX, () -> full.registerOf(36));
        says("17: IndexOutOfBoundsException if the circuit is mapped, and there is no such block");
        range("cellOf(block) of 36 blocks", INDEX, 36, full::cellOf);
        range("cellOf(block) of 1 block", INDEX, 1, at(MAPPED, XOR)::cellOf);
        range("cellOf(block) of no block", INDEX, 0, empty::cellOf);
        says("11 to 14, 17: IllegalStateException if the circuit is not mapped");
        needs("word(0)", MAPPED, x -> x.word(0));
        needs("inputOf(0, 0)", MAPPED, x -> x.inputOf(0, 0));
        needs("gateOf(0)", MAPPED, x -> x.gateOf(0));
        needs("cellOf(0)", MAPPED, x -> x.cellOf(0));
        refused("registerOf(0) ahead of map()", STATE, () -> of("r0 >0").registerOf(0));
        allowed("registerOf(0) behind map()", () -> at(MAPPED, "r0 >0").registerOf(0));
        says("11 to 14, 17: if the circuit is not mapped, no block is out of range");
        for (int block : new int[] {MIN, -1, 1, 36, MAX}) {
            first("word(" + block + ")", STATE, MAPPED, x -> x.word(block));
            first("inputOf(" + block + ", 0)", STATE, MAPPED, x -> x.inputOf(block, 0));
            first("gateOf(" + block + ")", STATE, MAPPED, x -> x.gateOf(block));
            first("registerOf(" + block + ")", STATE, MAPPED, x -> x.registerOf(block));
            first("cellOf(" + block + ")", STATE, MAPPED, x -> x.cellOf(block));
        }
    }

    private static void indicesOfInputs() {
        says("12: NoSuchElementException if there is no such input");
        range("inputOf(0, index) of 1", NONE, 1, i -> at(MAPPED, "i n0 >1").inputOf(0, i));
        range("inputOf(0, index) of 2", NONE, 2, i -> at(MAPPED, XOR).inputOf(0, i));
        range("inputOf(0, index) of 3", NONE, 3,
                i -> at(MAPPED, "i i i a0,1 a3,2 >4").inputOf(0, i));
        range("inputOf(0, index) of 4", NONE, 4,
                i -> at(MAPPED, "i i i i a0,1 a4,2 a5,3 >6").inputOf(0, i));
        range("inputOf(0, index) of a block that passes on", NONE, 1,
                i -> at(MAPPED, "r0 >0").inputOf(0, i));
        says("12: of two exceptions, the one for the block, or the stage, ahead of the input's");
        refused("inputOf(1, 2)", INDEX, () -> at(MAPPED, XOR).inputOf(1, 2));
        refused("inputOf(-1, -1)", INDEX, () -> at(MAPPED, XOR).inputOf(-1, -1));
        first("inputOf(0, 4)", STATE, MAPPED, x -> x.inputOf(0, 4));
        first("inputOf(0, -1)", STATE, MAPPED, x -> x.inputOf(0, -1));
    }

    private static void gatesAndRegisters() {
        Latticefit x = at(MAPPED, "i r0 r0 n0 n1 f1,3 >4");
        says("13: NoSuchElementException if it passes on a node");
        answers("gateOf(0), with a register", 3, () -> x.gateOf(0));
        refused("gateOf(1), passing on", NONE, () -> x.gateOf(1));
        answers("gateOf(2)", 4, () -> x.gateOf(2));
        says("14: NoSuchElementException if it has none");
        answers("registerOf(0), with a gate", 1, () -> x.registerOf(0));
        answers("registerOf(1)", 2, () -> x.registerOf(1));
        refused("registerOf(2), a gate alone", NONE, () -> x.registerOf(2));
        refused("registerOf(3)", INDEX, () -> x.registerOf(3));
    }

    // ---- places

    private static void fixCells() {
        says("15: IndexOutOfBoundsException if there is no such cell, 0 to 35");
        range("fix(0, cell)", INDEX, 36, cell -> at(MAPPED, XOR).fix(0, cell));
        says("15: of two exceptions, the one for the cell ahead of that for the stage");
        first("fix(0, 36)", INDEX, MAPPED, x -> x.fix(0, 36));
        first("fix(0, -1)", INDEX, MAPPED, x -> x.fix(0, -1));
        says("15: of two exceptions, the one for the cell ahead of that for what is fixed");
        Latticefit x = at(MAPPED, XOR);
        x.fix(0, 35);
        refused("fix(0, 36) of a fixed block", INDEX, () -> x.fix(0, 36));
        refused("fix(0, 35) of a fixed block", UNSUPPORTED, () -> x.fix(0, 35));
        refused("fix(-1, 36)", INDEX, () -> x.fix(-1, 36));
    }

    private static void fixBlocks() {
        says("15: IndexOutOfBoundsException if the circuit is mapped, and there is no such block");
        range("fix(block, 35) of 1 block", INDEX, 1, block -> at(MAPPED, XOR).fix(block, 35));
        range("fix(block, 35) of 3 blocks", INDEX, 3,
                block -> at(MAPPED, "r0 r0 r0 >0").fix(block, 35));
        range("fix(block, 0) of no block", INDEX, 0, block -> at(MAPPED, "i >0").fix(block, 0));
        says("15: IllegalStateException if the circuit is not mapped");
        needs("fix(0, 0)", MAPPED, x -> x.fix(0, 0));
        first("fix(-1, 0), any block", STATE, MAPPED, x -> x.fix(-1, 0));
        first("fix(1, 35), any block", STATE, MAPPED, x -> x.fix(1, 35));
        says("15: of two exceptions, the one for the block ahead of that for what is fixed");
        Latticefit x = at(MAPPED, "r0 r0 r0 >0");
        x.fix(2, 20);
        refused("fix(3, 20), a fixed block there", INDEX, () -> x.fix(3, 20));
        refused("fix(1, 20), a fixed block there", UNSUPPORTED, () -> x.fix(1, 20));
        x.addInput();
        refused("fix(1, 20) behind a change", STATE, () -> x.fix(1, 20));
        x.map();
        allowed("fix(1, 20) when mapped anew", () -> x.fix(1, 20));
    }

    private static void fixFixed() {
        says("15: UnsupportedOperationException if this block, or the one in that cell, is fixed");
        Latticefit x = at(MAPPED, "r0 r0 r0 >0");
        allowed("fix(0, 5)", () -> x.fix(0, 5));
        refused("fix(0, 6), this block", UNSUPPORTED, () -> x.fix(0, 6));
        refused("fix(0, 5), both", UNSUPPORTED, () -> x.fix(0, 5));
        refused("fix(1, 5), the one in that cell", UNSUPPORTED, () -> x.fix(1, 5));
        allowed("fix(1, 0), an empty cell now", () -> x.fix(1, 0));
        allowed("fix(2, 1), an empty cell now", () -> x.fix(2, 1));
        says("15: what is in both cells is exchanged");
        Latticefit y = at(MAPPED, "r0 r0 r0 >0");
        allowed("fix(0, 2), a block that is not fixed there", () -> y.fix(0, 2));
        answers("cellOf(0)", 2, () -> y.cellOf(0));
        answers("cellOf(2)", 0, () -> y.cellOf(2));
        answers("cellOf(1)", 1, () -> y.cellOf(1));
        allowed("fix(2, 0), where it is", () -> y.fix(2, 0));
        refused("fix(2, 0) again", UNSUPPORTED, () -> y.fix(2, 0));
        refused("fix(1, 0)", UNSUPPORTED, () -> y.fix(1, 0));
        allowed("fix(1, 1)", () -> y.fix(1, 1));
    }

    private static void anneal() {
        says("16: IllegalArgumentException if the seed is out of range, 0 or more");
        for (int seed : new int[] {MIN, -1}) {
            refused("anneal(" + seed + ", 1, 1)", ARGUMENT,
                    () -> at(MAPPED, XOR).anneal(seed, 1, 1));
        }
        for (int seed : new int[] {0, 1, MAX}) {
            allowed("anneal(" + seed + ", 1, 1)", () -> at(MAPPED, XOR).anneal(seed, 1, 1));
        }
        says("16: IllegalArgumentException if the steps are out of range, 1 to 200");
        range("anneal(0, steps + 1, 1)", ARGUMENT, 200,
                n -> at(MAPPED, XOR).anneal(0, n == MAX ? MAX : n + 1, 1));
        says("16: IllegalArgumentException if the heat is out of range, 1 to 50");
        range("anneal(0, 1, heat + 1)", ARGUMENT, 50,
                n -> at(MAPPED, XOR).anneal(0, 1, n == MAX ? MAX : n + 1));
        says("16: IllegalStateException if the circuit is not mapped");
        needs("anneal(0, 1, 1)", MAPPED, x -> x.anneal(0, 1, 1));
        says("16: of two exceptions, the one for a number");
        first("anneal(-1, 1, 1)", ARGUMENT, MAPPED, x -> x.anneal(-1, 1, 1));
        first("anneal(0, 0, 1)", ARGUMENT, MAPPED, x -> x.anneal(0, 0, 1));
        first("anneal(0, 201, 1)", ARGUMENT, MAPPED, x -> x.anneal(0, 201, 1));
        first("anneal(0, 1, 0)", ARGUMENT, MAPPED, x -> x.anneal(0, 1, 0));
        first("anneal(0, 1, 51)", ARGUMENT, MAPPED, x -> x.anneal(0, 1, 51));
    }

    private static void placesOfMapped() {
        says("18: IllegalStateException if the circuit is not mapped");
        needs("cost()", MAPPED, Latticefit::cost);
        says("19: IllegalStateException if the circuit is not mapped");
        needs("excess()", MAPPED, Latticefit::excess);
    }

    // ---- wires and times

    private static void route() {
        says("20: IllegalArgumentException if the number is out of range, 1 to 20");
        range("route(rounds + 1)", ARGUMENT, 20,
                n -> at(MAPPED, XOR).route(n == MAX ? MAX : n + 1));
        says("20: IllegalStateException if the circuit is not mapped");
        needs("route(1)", MAPPED, x -> x.route(1));
        says("20: of two exceptions, the one for the number");
        first("route(0)", ARGUMENT, MAPPED, x -> x.route(0));
        first("route(21)", ARGUMENT, MAPPED, x -> x.route(21));
    }

    private static void edges() {
        says("22: IndexOutOfBoundsException if there is no such edge, 0 to 83");
        range("netsOn(edge) of a new object", INDEX, 84, new Latticefit()::netsOn);
        for (int stage = CHANGED; stage <= STARTED; stage++) {
            range("netsOn(edge) in stage " + stage, INDEX, 84, at(stage, XOR)::netsOn);
        }
        says("22: 0 if there was no such call");
        for (int edge : new int[] {0, 41, 42, 83}) {
            answers("netsOn(" + edge + ") at first", 0, () -> new Latticefit().netsOn(edge));
            answers("netsOn(" + edge + ") when mapped", 0, () -> at(MAPPED, XOR).netsOn(edge));
        }
    }

    private static void wireOf() {
        says("23: IndexOutOfBoundsException if there is no such node");
        Latticefit x = at(ROUTED, XOR);
        for (int node : new int[] {MIN, -1, 3, MAX}) {
            refused("wireOf(" + node + ", 0)", INDEX, () -> x.wireOf(node, 0));
        }
        answers("wireOf(2, 0)", 0, () -> x.wireOf(2, 0));
        refused("wireOf(0, 0), in its range", NONE, () -> x.wireOf(0, 0));
        says("23: IndexOutOfBoundsException if there is no such edge, 0 to 83");
        for (int edge : new int[] {MIN, -1, 84, MAX}) {
            refused("wireOf(2, " + edge + ")", INDEX, () -> x.wireOf(2, edge));
        }
        refused("wireOf(2, 83), in its range", NONE, () -> x.wireOf(2, 83));
        says("23: IllegalStateException if it is not routed");
        needs("wireOf(2, 0)", ROUTED, y -> y.wireOf(2, 0));
        says("23: NoSuchElementException if it has none");
        answers("wireOf(2, 35)", 0, () -> x.wireOf(2, 35));
        refused("wireOf(2, 36)", NONE, () -> x.wireOf(2, 36));
        refused("wireOf(1, 0), another net's", NONE, () -> x.wireOf(1, 0));
        refused("wireOf(0, 42), a net without edges", NONE, () -> x.wireOf(0, 42));
        refused("wireOf(1, 0), a node without a net", NONE,
                () -> at(ROUTED, "i i >0").wireOf(1, 0));
        says("23: of two exceptions, the one that is listed first");
        first("wireOf(3, 0)", INDEX, ROUTED, y -> y.wireOf(3, 0));
        first("wireOf(0, 84)", INDEX, ROUTED, y -> y.wireOf(0, 84));
        first("wireOf(0, -1)", INDEX, ROUTED, y -> y.wireOf(0, -1));
        first("wireOf(0, 83), which it has not", STATE, ROUTED, y -> y.wireOf(0, 83));
    }

    private static void timeOf() {
        says("24: IndexOutOfBoundsException if there is no such node");
        range("timeOf(node)", INDEX, 3, at(ROUTED, XOR)::timeOf);
        says("24: IllegalStateException if it is not routed");
        needs("timeOf(2)", ROUTED, x -> x.timeOf(2));
        says("24: NoSuchElementException if it is a gate without a table");
        Latticefit x = at(ROUTED, "i r0 a0,1 n2 n0 >3");
        refused("timeOf(2), within the table of 3", NONE, () -> x.timeOf(2));
        refused("timeOf(4), told by nothing", NONE, () -> x.timeOf(4));
        allowed("timeOf(3), a gate with a table", () -> x.timeOf(3));
        answers("timeOf(0), an input", 0, () -> x.timeOf(0));
        answers("timeOf(1), a register", 0, () -> x.timeOf(1));
        says("24: of two exceptions, the one that is listed first");
        first("timeOf(3)", INDEX, ROUTED, y -> y.timeOf(3));
        first("timeOf(-1)", INDEX, ROUTED, y -> y.timeOf(-1));
        Latticefit z = at(MAPPED, "i r0 a0,1 n2 >3");
        refused("timeOf(2), mapped, a gate without a table", STATE, () -> z.timeOf(2));
    }

    private static void routedOnly() {
        says("25: IllegalStateException if it is not routed");
        needs("slowest()", ROUTED, Latticefit::slowest);
        says("26: IllegalStateException if it is not routed");
        needs("worstStretch()", ROUTED, Latticefit::worstStretch);
        says("27: IllegalStateException if it is not routed");
        needs("build()", ROUTED, Latticefit::build);
        says("41: IllegalStateException if it is not routed");
        needs("fill()", ROUTED, Latticefit::fill);
    }

    /** Each output is in the column 6, where no source is: some net always has a length. */
    private static void worstStretch() {
        says("26: ArithmeticException if there is no such net");
        Latticefit x = at(MAPPED, "r0 >0");
        x.fix(0, 30);
        x.route(1);
        answers("cost(), the least one there is", 1, x::cost);
        answers("worstStretch() of a net with the length 1", 1.0, x::worstStretch);
        Latticefit y = at(MAPPED, "r0 r0 i >0");
        y.fix(0, 30);
        y.route(1);
        answers("worstStretch() beside a net with the length 0", 1.0, y::worstStretch);
        says("26: the greatest one of the number of edges, divided by its length");
        // The net 2 goes from crossing 0 to 7 by three edges, as two nets have the one between.
        Latticefit z = at(MAPPED, "i r0 n0 r0 r0 f1,2 f3,2 f4,1 >0");
        z.fix(0, 0);
        z.fix(1, 6);
        z.fix(2, 12);
        z.route(1);
        answers("worstStretch() of 3 edges for the length 1", 3.0, z::worstStretch);
    }

    // ---- bitstream

    private static void wordAt() {
        Latticefit x = at(BUILT, XOR);
        says("28: IndexOutOfBoundsException if there is no such frame, 0 to 13");
        range("wordAt(frame, 0)", INDEX, 14, frame -> x.wordAt(frame, 0));
        says("28: NoSuchElementException if there is no such word");
        for (int frame = 0; frame < 14; frame++) {
            int at = frame;
            range("wordAt(" + frame + ", index)", NONE, FRAME_LENGTHS[frame],
                    index -> x.wordAt(at, index));
        }
        says("28: IllegalStateException if no bitstream is built");
        needs("wordAt(0, 0)", BUILT, y -> y.wordAt(0, 0));
        says("28: of two exceptions, the one that is listed first");
        refused("wordAt(14, 36)", INDEX, () -> x.wordAt(14, 36));
        refused("wordAt(-1, -1)", INDEX, () -> x.wordAt(-1, -1));
        first("wordAt(14, 0)", INDEX, BUILT, y -> y.wordAt(14, 0));
        first("wordAt(-1, 0)", INDEX, BUILT, y -> y.wordAt(-1, 0));
        first("wordAt(13, 6)", STATE, BUILT, y -> y.wordAt(13, 6));
        first("wordAt(0, -1)", STATE, BUILT, y -> y.wordAt(0, -1));
    }

    private static void check() {
        says("29: IndexOutOfBoundsException if there is no such frame, 0 to 13");
        range("check(frame)", INDEX, 14, at(BUILT, XOR)::check);
        says("29: IllegalStateException if no bitstream is built");
        needs("check(13)", BUILT, x -> x.check(13));
        says("29: of two exceptions, the one for the frame");
        first("check(14)", INDEX, BUILT, x -> x.check(14));
        first("check(-1)", INDEX, BUILT, x -> x.check(-1));
    }

    // ---- chip

    private static void start() {
        says("30: IllegalStateException if no bitstream is built");
        needs("start()", BUILT, Latticefit::start);
        says("30: Returns the number of outputs");
        answers("start() of 1 output", 1, () -> at(BUILT, XOR).start());
        answers("start() of 6 outputs", 6, () -> at(BUILT, XOR + " >2 >2 >2 >2 >0").start());
    }

    private static void setInput() {
        says("31: IndexOutOfBoundsException if there is no such input");
        range("setInput(input, true) of 2", INDEX, 2,
                input -> at(STARTED, XOR).setInput(input, true));
        range("setInput(input, true) of none", INDEX, 0,
                input -> at(STARTED, "r0 >0").setInput(input, true));
        range("setInput(input, true) of 6", INDEX, 6,
                input -> at(STARTED, "i i i i i i >5").setInput(input, true));
        says("31: IllegalStateException if the chip is not started");
        needs("setInput(1, true)", STARTED, x -> x.setInput(1, true));
        says("31: of two exceptions, the one for the input");
        first("setInput(2, true)", INDEX, STARTED, x -> x.setInput(2, true));
        first("setInput(-1, true)", INDEX, STARTED, x -> x.setInput(-1, true));
    }

    private static void tick() {
        says("32: IllegalArgumentException if there is no such clock, 0 to 2");
        range("tick(clock)", ARGUMENT, 3, at(STARTED, XOR)::tick);
        says("32: IllegalStateException if the chip is not started");
        needs("tick(2)", STARTED, x -> x.tick(2));
        says("32: of two exceptions, the one for the clock");
        first("tick(3)", ARGUMENT, STARTED, x -> x.tick(3));
        first("tick(-1)", ARGUMENT, STARTED, x -> x.tick(-1));
        says("32: Returns how many ticks of all clocks there were since the start");
        Latticefit x = at(STARTED, XOR);
        for (int i = 0; i < 9; i++) {
            int clock = i % 3;
            answers("tick(" + clock + ")", i + 1L, () -> x.tick(clock));
            refused("tick(3), not counted", ARGUMENT, () -> x.tick(3));
        }
        x.start();
        answers("tick(0) behind start()", 1L, () -> x.tick(0));
    }

    private static void outputs() {
        String six = "i i >0 >1 >0 >1 >0 >1";
        says("33: IndexOutOfBoundsException if there is no such output");
        range("circuitOutput(output) of 1", INDEX, 1, at(STARTED, XOR)::circuitOutput);
        range("circuitOutput(output) of 6", INDEX, 6, at(STARTED, six)::circuitOutput);
        says("33: IllegalStateException if the chip is not started");
        needs("circuitOutput(0)", STARTED, x -> x.circuitOutput(0));
        says("33: of two exceptions, the one for the output");
        first("circuitOutput(1)", INDEX, STARTED, x -> x.circuitOutput(1));
        first("circuitOutput(-1)", INDEX, STARTED, x -> x.circuitOutput(-1));
        says("34: IndexOutOfBoundsException if there is no such output");
        range("chipOutput(output) of 1", INDEX, 1, at(STARTED, XOR)::chipOutput);
        range("chipOutput(output) of 6", INDEX, 6, at(STARTED, six)::chipOutput);
        says("34: IllegalStateException if the chip is not started");
        needs("chipOutput(0)", STARTED, x -> x.chipOutput(0));
        says("34: of two exceptions, the one for the output");
        first("chipOutput(1)", INDEX, STARTED, x -> x.chipOutput(1));
        first("chipOutput(-1)", INDEX, STARTED, x -> x.chipOutput(-1));
    }

    private static void chipRegister() {
        says("35: IndexOutOfBoundsException if there is no such cell, 0 to 35");
        range("chipRegister(cell)", INDEX, 36, at(STARTED, XOR)::chipRegister);
        says("35: IllegalStateException if the chip is not started");
        needs("chipRegister(35)", STARTED, x -> x.chipRegister(35));
        says("35: of two exceptions, the one for the cell");
        first("chipRegister(36)", INDEX, STARTED, x -> x.chipRegister(36));
        first("chipRegister(-1)", INDEX, STARTED, x -> x.chipRegister(-1));
    }

    private static void sourceOf() {
        String four = "i i i i a0,1 a4,2 a5,3 >6";
        Latticefit x = at(MAPPED, four);
        x.fix(0, 35);
        x.route(20);
        x.build();
        x.start();
        says("36: IndexOutOfBoundsException if there is no such cell, 0 to 35");
        for (int cell : new int[] {MIN, -1, 36, MAX}) {
            refused("sourceOf(" + cell + ", 0)", INDEX, () -> x.sourceOf(cell, 0));
        }
        answers("sourceOf(35, 0)", 0, () -> x.sourceOf(35, 0));
        answers("sourceOf(0, 0)", 0, () -> at(STARTED, four).sourceOf(0, 0));
        says("36: IndexOutOfBoundsException if there is no such input, 0 to 3");
        for (int index : new int[] {MIN, -1, 4, MAX}) {
            refused("sourceOf(35, " + index + ")", INDEX, () -> x.sourceOf(35, index));
        }
        answers("sourceOf(35, 3)", 3, () -> x.sourceOf(35, 3));
        says("36: IllegalStateException if the chip is not started");
        needs("sourceOf(0, 1)", STARTED, y -> y.sourceOf(0, 1));
        says("36: of two exceptions, the one that is listed first");
        first("sourceOf(36, 0)", INDEX, STARTED, y -> y.sourceOf(36, 0));
        first("sourceOf(-1, 0)", INDEX, STARTED, y -> y.sourceOf(-1, 0));
        first("sourceOf(0, 4)", INDEX, STARTED, y -> y.sourceOf(0, 4));
        first("sourceOf(0, -1)", INDEX, STARTED, y -> y.sourceOf(0, -1));
        first("sourceOf(35, 3), where no node arrives", STATE, STARTED, y -> y.sourceOf(35, 3));
    }

    private static void sourcesThatAreNone() {
        // The block 0 has the register 1 and the gate 3, the block 1 passes on, and the block 2 has
        // a gate alone.
        Latticefit x = at(STARTED, "i r0 r0 n0 n1 f1,3 >4");
        says("36: NoSuchElementException if no node arrives");
        answers("sourceOf(0, 0)", 0, () -> x.sourceOf(0, 0));
        refused("sourceOf(0, 1), an input that the table has not", NONE, () -> x.sourceOf(0, 1));
        refused("sourceOf(3, 0), an empty cell", NONE, () -> x.sourceOf(3, 0));
        says("36: NoSuchElementException if it is the table of a cell without a gate");
        flipTo(x, 0, 2, 0, 200);
        answers("sourceOf(0, 1) of 200, a gate beside a register", 3, () -> x.sourceOf(0, 1));
        flipTo(x, 0, 2, 200, 202);
        refused("sourceOf(0, 1) of 202, of a block that passes on", NONE, () -> x.sourceOf(0, 1));
        flipTo(x, 0, 2, 202, 204);
        answers("sourceOf(0, 1) of 204, a gate alone", 4, () -> x.sourceOf(0, 1));
        flipTo(x, 0, 2, 204, 206);
        refused("sourceOf(0, 1) of 206, of an empty cell", NONE, () -> x.sourceOf(0, 1));
        flipTo(x, 0, 2, 206, 270);
        refused("sourceOf(0, 1) of 270, of the last cell", NONE, () -> x.sourceOf(0, 1));
        says("36: NoSuchElementException if it is the register of a cell without one");
        flipTo(x, 0, 2, 270, 201);
        answers("sourceOf(0, 1) of 201, a register beside a gate", 1, () -> x.sourceOf(0, 1));
        flipTo(x, 0, 2, 201, 203);
        answers("sourceOf(0, 1) of 203, a register alone", 2, () -> x.sourceOf(0, 1));
        flipTo(x, 0, 2, 203, 205);
        refused("sourceOf(0, 1) of 205, of a gate alone", NONE, () -> x.sourceOf(0, 1));
        flipTo(x, 0, 2, 205, 207);
        refused("sourceOf(0, 1) of 207, of an empty cell", NONE, () -> x.sourceOf(0, 1));
        flipTo(x, 0, 2, 207, 271);
        refused("sourceOf(0, 1) of 271, of the last cell", NONE, () -> x.sourceOf(0, 1));
        says("36: NoSuchElementException if no node arrives, by another code");
        flipTo(x, 0, 2, 271, 300);
        answers("sourceOf(0, 1) of 300, the input", 0, () -> x.sourceOf(0, 1));
        flipTo(x, 0, 2, 300, 301);
        refused("sourceOf(0, 1) of 301, with one input", NONE, () -> x.sourceOf(0, 1));
        flipTo(x, 0, 2, 301, 299);
        refused("sourceOf(0, 1) of 299", NONE, () -> x.sourceOf(0, 1));
        flipTo(x, 0, 2, 299, 272);
        refused("sourceOf(0, 1) of 272", NONE, () -> x.sourceOf(0, 1));
        flipTo(x, 0, 2, 272, 199);
        refused("sourceOf(0, 1) of 199", NONE, () -> x.sourceOf(0, 1));
    }

    private static void sourcesOfFarCells() {
        says("36: found from the frames alone, and from what is in the cells, 0 to 35");
        for (int cell : new int[] {0, 1, 18, 19, 34, 35}) {
            Latticefit x = at(MAPPED, "i r0 n0 f1,2 >1");
            x.fix(0, cell);
            x.route(20);
            x.build();
            int code = x.wordAt(cell / 6, 6 * (cell % 6) + 1);
            x.start();
            answers("sourceOf(" + cell + ", 0)", 0, () -> x.sourceOf(cell, 0));
            flipTo(x, cell / 6, 6 * (cell % 6) + 1, code, 200 + 2 * cell);
            answers("sourceOf() of the table in " + cell, 2, () -> x.sourceOf(cell, 0));
            x.flip(cell / 6, 6 * (cell % 6) + 1, 0);
            answers("sourceOf() of the register in " + cell, 1, () -> x.sourceOf(cell, 0));
        }
    }

    private static void flipTo(Latticefit x, int frame, int index, int from, int to) {
        for (int bit = 0; bit < 16; bit++) {
            if (((from ^ to) >> bit & 1) == 1) {
                x.flip(frame, index, bit);
            }
        }
    }

    private static void flip() {
        Latticefit x = at(STARTED, XOR);
        says("37: IndexOutOfBoundsException if there is no such frame, 0 to 13");
        range("flip(frame, 0, 0)", INDEX, 14, frame -> x.flip(frame, 0, 0));
        says("37: IndexOutOfBoundsException if there is no such bit, 0 to 15");
        range("flip(12, 0, bit)", INDEX, 16, bit -> x.flip(12, 0, bit));
        answers("flip(12, 1, 15)", 32768, () -> x.flip(12, 1, 15));
        answers("flip(12, 1, 0)", 32769, () -> x.flip(12, 1, 0));
        says("37: NoSuchElementException if there is no such word");
        for (int frame = 0; frame < 14; frame++) {
            int at = frame;
            range("flip(" + frame + ", index, 5)", NONE, FRAME_LENGTHS[frame],
                    index -> x.flip(at, index, 5));
        }
        says("37: IllegalStateException if the chip is not started");
        needs("flip(13, 5, 15)", STARTED, y -> y.flip(13, 5, 15));
        says("37: of two exceptions, the one that is listed first");
        refused("flip(14, 36, 0)", INDEX, () -> x.flip(14, 36, 0));
        refused("flip(0, 36, 16)", INDEX, () -> x.flip(0, 36, 16));
        refused("flip(0, -1, -1)", INDEX, () -> x.flip(0, -1, -1));
        first("flip(14, 0, 0)", INDEX, STARTED, y -> y.flip(14, 0, 0));
        first("flip(-1, 0, 0)", INDEX, STARTED, y -> y.flip(-1, 0, 0));
        first("flip(0, 0, 16)", INDEX, STARTED, y -> y.flip(0, 0, 16));
        first("flip(0, 0, -1)", INDEX, STARTED, y -> y.flip(0, 0, -1));
        first("flip(13, 6, 0)", STATE, STARTED, y -> y.flip(13, 6, 0));
    }

    private static void isBad() {
        says("38: IndexOutOfBoundsException if there is no such frame, 0 to 13");
        range("isBad(frame)", INDEX, 14, at(STARTED, XOR)::isBad);
        says("38: IllegalStateException if the chip is not started");
        needs("isBad(13)", STARTED, x -> x.isBad(13));
        says("38: of two exceptions, the one for the frame");
        first("isBad(14)", INDEX, STARTED, x -> x.isBad(14));
        first("isBad(-1)", INDEX, STARTED, x -> x.isBad(-1));
        says("38: whether the check is another one than that of the bitstream");
        Latticefit x = at(STARTED, XOR);
        for (int frame = 0; frame < 14; frame++) {
            int at = frame;
            answers("isBad(" + frame + ") at first", false, () -> x.isBad(at));
            x.flip(frame, FRAME_LENGTHS[frame] - 1, 15);
            answers("isBad(" + frame + ") with its last word flipped", true, () -> x.isBad(at));
            x.flip(frame, FRAME_LENGTHS[frame] - 1, 15);
            answers("isBad(" + frame + ") with it flipped back", false, () -> x.isBad(at));
        }
        flipTo(x, 12, 11, 0, 65521);
        answers("isBad(12) with 65521 more", false, () -> x.isBad(12));
        x.flip(12, 11, 0);
        answers("isBad(12) with 65520 more", true, () -> x.isBad(12));
    }

    private static void scrub() {
        says("39: IllegalStateException if the chip is not started");
        needs("scrub()", STARTED, Latticefit::scrub);
        says("39: Loads all bad frames anew, none and all 14");
        Latticefit x = at(STARTED, XOR);
        answers("scrub() of none", 0, x::scrub);
        for (int frame = 0; frame < 14; frame++) {
            x.flip(frame, 0, 0);
        }
        answers("scrub() of all", 14, x::scrub);
        answers("scrub() again", 0, x::scrub);
        for (int frame = 0; frame < 14; frame++) {
            int at = frame;
            answers("isBad(" + frame + ")", false, () -> x.isBad(at));
        }
        x.flip(0, 35, 7);
        x.flip(13, 5, 7);
        answers("scrub() of the first and the last one", 2, x::scrub);
    }

    private static void agrees() {
        says("40: IllegalStateException if the chip is not started");
        needs("agrees()", STARTED, Latticefit::agrees);
        says("40: all outputs, from the first one on");
        answers("agrees() as the first question", true, at(STARTED, "i n0 >1")::agrees);
        Latticefit z = at(STARTED, "i i >0 >1");
        z.setInput(0, true);
        int first = at(BUILT, "i i >0 >1").wordAt(13, 0);
        flipTo(z, 13, 0, first, 0);
        answers("agrees() with the output 0 from nowhere", false, z::agrees);
        z.setInput(0, false);
        answers("agrees() with false for it", true, z::agrees);
        says("40: all outputs, up to the last one");
        Latticefit x = at(STARTED, "i i >0 >0 >0 >0 >0 >1");
        x.setInput(1, true);
        answers("agrees()", true, x::agrees);
        int last = at(BUILT, "i i >0 >0 >0 >0 >0 >1").wordAt(13, 5);
        flipTo(x, 13, 5, last, 0);
        answers("agrees() with the output 5 from nowhere", false, x::agrees);
        x.setInput(1, false);
        answers("agrees() with false for it", true, x::agrees);
        says("40: and so have the registers, from the first one on");
        Latticefit w = at(STARTED, "R0 R1 >1");
        w.flip(0, 0, 1);
        w.tick(1);
        answers("agrees(), as the clock is another one", true, w::agrees);
        w.tick(0);
        answers("agrees() with the register 0 wrong", false, w::agrees);
        answers("chipOutput(0), the other one", true, () -> w.chipOutput(0));
        says("40: and so have the registers, up to the last one");
        Latticefit y = at(STARTED, "R0 R0 R0 R0 R0 R0 R0 R1 >0");
        answers("agrees()", true, y::agrees);
        y.flip(1, 6, 1);
        y.tick(0);
        answers("agrees(), as the clock is another one", true, y::agrees);
        y.tick(1);
        answers("agrees() with the register 7 wrong", false, y::agrees);
    }

    private static void fill() {
        says("41: the share of the wires that nets have, of 168");
        Latticefit x = at(MAPPED, "r0 >0");
        x.fix(0, 30);
        x.route(1);
        answers("fill() of one wire", 1f / 168f, x::fill);
        Latticefit y = at(MAPPED, "r0 >0");
        y.fix(0, 24);
        y.route(1);
        answers("fill() of two wires", 2f / 168f, y::fill);
        answers("fill() of six wires, the edge 0 among them", 6f / 168f, at(ROUTED, "i >0")::fill);
        answers("fill() of seven wires, one of them to crossing 0", 7f / 168f,
                at(ROUTED, "i i n1 >2")::fill);
    }

    private static void isConsistent() {
        says("42: Returns true if the invariants hold");
        for (int stage = CHANGED; stage <= STARTED; stage++) {
            answers("isConsistent() in stage " + stage, true, at(stage, XOR)::isConsistent);
        }
        answers("isConsistent() of 48 nodes", true, nodes(48, 6, 8)::isConsistent);
        Latticefit x = of(CROWD + " >0");
        answers("isConsistent() ahead of a refused map()", true, x::isConsistent);
        refused("map()", UNSUPPORTED, x::map);
        answers("isConsistent() behind it", true, x::isConsistent);
        x.feed(0, 0);
        x.map();
        answers("isConsistent() of 36 blocks", true, x::isConsistent);
        x.anneal(3, 200, 50);
        answers("isConsistent() behind swaps", true, x::isConsistent);
    }

    /** 6 inputs, 8 registers, 34 gates 'n' in a row from the last register on, and 6 outputs. */
    private static String fullCircuit() {
        StringBuilder circuit = new StringBuilder("i i i i i i R0 r1 r2 R0 r1 r2 R0 R1");
        for (int node = 13; node < 47; node++) {
            circuit.append(" n").append(node);
        }
        for (int register = 6; register < 14; register++) {
            circuit.append(" f").append(register).append(',').append(register + 34);
        }
        return circuit.append(" >47 >46 >0 >5 >6 >13").toString();
    }

    private static void fullCircuitPlaced() {
        says("at most 48 nodes, 6 inputs, 8 registers, 6 outputs: all calls for all of them");
        Latticefit x = at(ROUTED, fullCircuit());
        answers("isRouted()", true, x::isRouted);
        for (int i = 0; i < 48; i++) {
            int node = i;
            boolean isNeeded = node >= 40;
            answers("depth(" + i + ")", node < 14 ? 0 : 1, () -> x.depth(node));
            answers("isNeeded(" + i + ")", isNeeded, () -> x.isNeeded(node));
            if (isNeeded) {
                answers("timeOf(" + i + ") is 3 or more", true, () -> x.timeOf(node) >= 3);
            } else {
                answers("timeOf(" + i + ")", node < 14 ? 0 : NONE, () -> x.timeOf(node));
            }
        }
        for (int i = 0; i < 8; i++) {
            int block = i;
            answers("registerOf(" + i + ")", 6 + block, () -> x.registerOf(block));
            answers("gateOf(" + i + ")", 40 + block, () -> x.gateOf(block));
            answers("word(" + i + ")", block % 2 == 0 ? 21845 : 43690, () -> x.word(block));
            answers("inputOf(" + i + ", 0)", 13, () -> x.inputOf(block, 0));
            refused("inputOf(" + i + ", 1)", NONE, () -> x.inputOf(block, 1));
            answers("cellOf(" + i + ")", block, () -> x.cellOf(block));
        }
        answers("excess()", 1, x::excess);
        answers("cost() is there", true, () -> x.cost() > 6);
        answers("slowest() is there", true, () -> x.slowest() > 6);
        answers("worstStretch() is there", true, () -> x.worstStretch() >= 1.0);
        answers("fill() is there", true, () -> x.fill() > 0f);
        answers("isConsistent()", true, x::isConsistent);
    }

    private static void fullCircuitStarted() {
        says("at most 48 nodes, 6 inputs, 8 registers, 6 outputs: the chip of all of them");
        Latticefit x = at(STARTED, fullCircuit());
        String[] due = {"100011", "100001", "100001", "100001"};
        for (int step = 0; step < 4; step++) {
            if (step > 0) {
                int clock = step - 1;
                answers("tick(" + clock + ")", (long) step, () -> x.tick(clock));
            }
            for (int j = 0; j < 6; j++) {
                int output = j;
                boolean isOne = due[step].charAt(j) == '1';
                answers("circuitOutput(" + j + ")", isOne, () -> x.circuitOutput(output));
                answers("chipOutput(" + j + ")", isOne, () -> x.chipOutput(output));
            }
            answers("agrees()", true, x::agrees);
        }
        for (int i = 0; i < 8; i++) {
            int cell = i;
            answers("chipRegister(" + i + ")", cell % 2 == 1, () -> x.chipRegister(cell));
            answers("sourceOf(" + i + ", 0)", 13, () -> x.sourceOf(cell, 0));
        }
        answers("setInput(5, true)", false, () -> x.setInput(5, true));
        answers("circuitOutput(3)", true, () -> x.circuitOutput(3));
        answers("chipOutput(3)", true, () -> x.chipOutput(3));
        answers("start()", 6, x::start);
        answers("chipRegister(0)", true, () -> x.chipRegister(0));
        answers("agrees() behind start()", true, x::agrees);
    }

    /** 36 blocks never are routed, but all that can be asked until then has an answer. */
    private static void allCells() {
        says("There are 36 cells");
        Latticefit x = at(MAPPED, CROWD + " >0 f0,0");
        answers("cost() is there", true, () -> x.cost() > 36);
        answers("excess()", 0, x::excess);
        answers("anneal() with swaps", true, () -> x.anneal(5, 200, 50) > 0);
        answers("route(1)", 1, () -> x.route(1));
        answers("isRouted()", false, x::isRouted);
        boolean[] isTaken = new boolean[36];
        for (int block = 0; block < 36; block++) {
            due("a cell for each block", isTaken[x.cellOf(block)], false);
            isTaken[x.cellOf(block)] = true;
        }
        int last = x.cellOf(35);
        answers("fix(35, 35)", true, () -> x.fix(35, 35) > 36);
        answers("cellOf(35), exchanged from " + last, 35, () -> x.cellOf(35));
        answers("isConsistent()", true, x::isConsistent);
    }

    private static void calls512() {
        says("An object is used for at most 512 calls");
        Latticefit x = at(STARTED, XOR);
        for (int call = 9; call < 512; call++) {
            x.tick(call % 3);
        }
        answers("the call 512, tick(0)", 504L, () -> x.tick(0));
        Latticefit y = new Latticefit();
        for (int call = 1; call < 507; call++) {
            refused("map() of a new object", STATE, y::map);
        }
        answers("the call 507, addInput()", 0, y::addInput);
        answers("addOutput(0)", 0, () -> y.addOutput(0));
        answers("map()", 0, y::map);
        answers("route(1)", 1, () -> y.route(1));
        answers("build()", 7, y::build);
        answers("the call 512, start()", 1, y::start);
    }
}
