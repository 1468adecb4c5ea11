import java.util.NoSuchElementException;

/** At least one test for each promise; what is due was worked out by hand from the document. */
public final class LatticefitPromises {
    private static final Class<?> INDEX = IndexOutOfBoundsException.class;
    private static final Class<?> STATE = IllegalStateException.class;
    private static final Class<?> ARGUMENT = IllegalArgumentException.class;
    private static final Class<?> NONE = NoSuchElementException.class;
    private static final Class<?> UNSUPPORTED = UnsupportedOperationException.class;

    // A circuit without inputs: 8 registers, 40 gates 'a', the nodes that feed the registers, and
    // the outputs. It needs 36 blocks with the first five outputs, and more with the sixth (it was
    // found by searching with random changes).
    private static final int[][] WIDE = {
        {3, 6}, {2, 6}, {8, 1}, {4, 1}, {5, 1}, {10, 1}, {9, 0}, {2, 4}, {11, 14}, {16, 11},
        {7, 2}, {17, 9}, {4, 9}, {1, 12}, {18, 2}, {0, 13}, {15, 13}, {18, 2}, {10, 18}, {26, 19},
        {10, 4}, {1, 26}, {29, 29}, {5, 15}, {13, 3}, {6, 24}, {16, 29}, {25, 33}, {24, 20},
        {3, 26}, {7, 27}, {23, 37}, {6, 17}, {13, 31}, {28, 22}, {33, 3}, {41, 35}, {27, 42},
        {16, 39}, {36, 46}};
    private static final int[] WIDE_FEEDERS = {0, 17, 2, 3, 4, 5, 24, 7};
    private static final int[] WIDE_OUTPUTS = {47, 30, 45, 44, 34, 12};

    private static int promise;
    private static int asked;
    private static int wrong;

    private interface Call {
        Object of();
    }

    private static void due(String text, Object got, Object want) {
        asked++;
        if (!want.equals(got)) {
            wrong++;
            System.out.println("promise " + promise + ": " + text + " answered " + got
                    + ", due is " + want);
        }
    }

    private static void dueThrow(String text, Class<?> want, Call call) {
        Object got;
        try {
            got = call.of();
        } catch (RuntimeException e) {
            got = e.getClass();
        }
        due(text, got, want);
    }

    public static void main(String[] args) {
        circuitPromises();
        mapPromises();
        placePromises();
        routePromises();
        bitPromises();
        chipPromises();
        System.out.println(asked - wrong + " of " + asked + " answers are as due");
        if (wrong != 0) {
            System.exit(1);
        }
    }

    private static void circuitPromises() {
        newObject();
        inputs();
        registers();
        gates();
        feeding();
        outputs();
        kinds();
    }

    private static void mapPromises() {
        mapping();
        mappingTooWide();
        depths();
        needs();
        words();
        freeCuts();
        inputsOfBlocks();
        gatesAndRegistersOfBlocks();
    }

    private static void placePromises() {
        fixing();
        annealing();
        cells();
        costs();
        excesses();
    }

    private static void routePromises() {
        routing();
        routed();
        netsOnEdges();
        wires();
        timesOfNodes();
        slowestTimes();
        stretches();
        fills();
    }

    private static void bitPromises() {
        building();
        wordsOfFrames();
        checks();
    }

    private static void chipPromises() {
        starting();
        settingInputs();
        ticking();
        circuitOutputs();
        chipOutputs();
        chipRegisters();
        sources();
        flips();
        badFrames();
        scrubs();
        agreements();
        consistency();
    }

    // ---- circuits that several tests use

    /** Inputs 0 and 1, the gate 2 = 0 xor 1, and the output 0 of it: one block, in cell 0. */
    private static Latticefit xor() {
        Latticefit x = new Latticefit();
        x.addInput();
        x.addInput();
        x.addGate('x', 0, 1);
        x.addOutput(2);
        return x;
    }

    private static Latticefit xorMapped() {
        Latticefit x = xor();
        x.map();
        return x;
    }

    private static Latticefit xorRouted() {
        Latticefit x = xorMapped();
        x.route(1);
        return x;
    }

    private static Latticefit xorBuilt() {
        Latticefit x = xorRouted();
        x.build();
        return x;
    }

    private static Latticefit xorStarted() {
        Latticefit x = xorBuilt();
        x.start();
        return x;
    }

    /**
     * The register 0, one at first, with clock 1, fed by the gate 2 = not 0; the register 1, with
     * clock 2, fed by 0; the input 3; the register 4, with clock 0, fed by 3; outputs of 0, 1, 4.
     */
    private static Latticefit toggle() {
        Latticefit x = new Latticefit();
        x.addRegister(true, 1);
        x.addRegister(false, 2);
        x.addGate('n', 0, 0);
        x.addInput();
        x.addRegister(false, 0);
        x.feed(0, 2);
        x.feed(1, 0);
        x.feed(4, 3);
        x.addOutput(0);
        x.addOutput(1);
        x.addOutput(4);
        return x;
    }

    /**
     * The input 0; the register 1, fed by the gate 2 = not 0, with it in block 0; the registers 3
     * and 4, in blocks that pass on 2 and 1; the output 0 of the input.
     */
    private static Latticefit detour() {
        Latticefit x = new Latticefit();
        x.addInput();
        x.addRegister(false, 0);
        x.addGate('n', 0, 0);
        x.addRegister(false, 0);
        x.addRegister(false, 0);
        x.feed(1, 2);
        x.feed(3, 2);
        x.feed(4, 1);
        x.addOutput(0);
        return x;
    }

    /**
     * Its blocks are at the crossings 0, 7 and 14. The nets 0 and 1 come from crossing 0 along the
     * row 0, and the net 2 comes from there to 7 over the crossings 1 and 8.
     */
    private static Latticefit detourRouted() {
        Latticefit x = detour();
        x.map();
        x.fix(0, 0);
        x.fix(1, 6);
        x.fix(2, 12);
        x.route(1);
        return x;
    }

    private static Latticefit toggleStarted() {
        Latticefit x = toggle();
        x.map();
        x.route(20);
        x.build();
        x.start();
        return x;
    }

    private static Latticefit wide() {
        Latticefit x = new Latticefit();
        for (int i = 0; i < 8; i++) {
            x.addRegister(false, 0);
        }
        for (int[] gate : WIDE) {
            x.addGate('a', gate[0], gate[1]);
        }
        for (int i = 0; i < 8; i++) {
            x.feed(i, WIDE_FEEDERS[i]);
        }
        return x;
    }

    private static Latticefit nodes48() {
        Latticefit x = new Latticefit();
        x.addInput();
        x.addRegister(false, 0);
        for (int i = 2; i < 48; i++) {
            x.addGate('n', i - 1, -5);
        }
        return x;
    }

    // ---- circuit

    private static void newObject() {
        promise = 1;
        Latticefit x = new Latticefit();
        dueThrow("kindOf(0)", INDEX, () -> x.kindOf(0));
        dueThrow("map()", STATE, () -> x.map());
        due("isRouted()", x.isRouted(), false);
        due("netsOn(0)", x.netsOn(0), 0);
        due("isConsistent()", x.isConsistent(), true);
    }

    private static void inputs() {
        promise = 2;
        Latticefit x = new Latticefit();
        for (int i = 0; i < 6; i++) {
            due("addInput()", x.addInput(), i);
        }
        dueThrow("the seventh addInput()", STATE, x::addInput);
        due("addGate() after it", x.addGate('a', 0, 5), 6);
        dueThrow("addInput() at 48 nodes", STATE, () -> nodes48().addInput());
    }

    private static void registers() {
        promise = 3;
        Latticefit x = new Latticefit();
        dueThrow("addRegister(true, 3)", ARGUMENT, () -> x.addRegister(true, 3));
        dueThrow("addRegister(true, -1)", ARGUMENT, () -> x.addRegister(true, -1));
        for (int i = 0; i < 8; i++) {
            due("addRegister()", x.addRegister(i % 2 == 0, i % 3), i);
        }
        dueThrow("the ninth addRegister()", STATE, () -> x.addRegister(false, 2));
        dueThrow("the ninth addRegister() with a bad clock", ARGUMENT,
                () -> x.addRegister(false, 3));
        dueThrow("addRegister() at 48 nodes", STATE, () -> nodes48().addRegister(false, 0));
        due("feed(7, 7), itself at first", x.feed(7, 0), 7);
    }

    private static void gates() {
        promise = 4;
        Latticefit x = new Latticefit();
        x.addInput();
        dueThrow("addGate('i', 0, 0)", ARGUMENT, () -> x.addGate('i', 0, 0));
        dueThrow("addGate('r', 0, 0)", ARGUMENT, () -> x.addGate('r', 0, 0));
        dueThrow("addGate('b', 9, 9)", ARGUMENT, () -> x.addGate('b', 9, 9));
        dueThrow("addGate('a', 1, 0)", INDEX, () -> x.addGate('a', 1, 0));
        dueThrow("addGate('o', 0, 1)", INDEX, () -> x.addGate('o', 0, 1));
        dueThrow("addGate('x', -1, 0)", INDEX, () -> x.addGate('x', -1, 0));
        dueThrow("addGate('n', 1, 0)", INDEX, () -> x.addGate('n', 1, 0));
        due("addGate('n', 0, -7)", x.addGate('n', 0, -7), 1);
        due("addGate('n', 1, MAX)", x.addGate('n', 1, Integer.MAX_VALUE), 2);
        due("addGate('a', 2, 2)", x.addGate('a', 2, 2), 3);
        Latticefit full = nodes48();
        dueThrow("addGate() at 48 nodes", STATE, () -> full.addGate('x', 0, 47));
        dueThrow("addGate() of a bad node at 48 nodes", INDEX, () -> full.addGate('x', 0, 48));
        dueThrow("addGate() of a bad kind at 48 nodes", ARGUMENT, () -> full.addGate('z', 0, 48));
    }

    private static void feeding() {
        promise = 5;
        Latticefit x = toggle();
        due("feed(0, 1)", x.feed(0, 1), 2);
        due("feed(0, 1) again", x.feed(0, 1), 1);
        dueThrow("feed(3, 0), an input", STATE, () -> x.feed(3, 0));
        dueThrow("feed(2, 0), a gate", STATE, () -> x.feed(2, 0));
        dueThrow("feed(2, 5)", INDEX, () -> x.feed(2, 5));
        dueThrow("feed(0, 5)", INDEX, () -> x.feed(0, 5));
        dueThrow("feed(-1, 0)", INDEX, () -> x.feed(-1, 0));
        due("feed(0, 2)", x.feed(0, 2), 1);
        x.map();
        x.feed(0, 2);
        dueThrow("cost() after feeding by the same node", STATE, x::cost);
    }

    private static void outputs() {
        promise = 6;
        Latticefit x = new Latticefit();
        dueThrow("addOutput(0) without nodes", INDEX, () -> x.addOutput(0));
        x.addInput();
        for (int j = 0; j < 6; j++) {
            due("addOutput(0)", x.addOutput(0), j);
        }
        dueThrow("the seventh addOutput(0)", STATE, () -> x.addOutput(0));
        dueThrow("the seventh addOutput(1)", INDEX, () -> x.addOutput(1));
        dueThrow("addOutput(-1)", INDEX, () -> x.addOutput(-1));
    }

    private static void kinds() {
        promise = 7;
        Latticefit x = toggle();
        x.addGate('a', 0, 1);
        x.addGate('o', 0, 1);
        x.addGate('x', 0, 1);
        String kinds = "rrniraox";
        for (int node = 0; node < kinds.length(); node++) {
            due("kindOf(" + node + ")", x.kindOf(node), kinds.charAt(node));
        }
        dueThrow("kindOf(8)", INDEX, () -> x.kindOf(8));
        dueThrow("kindOf(-1)", INDEX, () -> x.kindOf(-1));
    }

    // ---- tables and blocks

    private static void mapping() {
        promise = 8;
        Latticefit x = new Latticefit();
        x.addInput();
        x.addGate('n', 0, 0);
        dueThrow("map() without outputs", STATE, x::map);
        x.addOutput(0);
        due("map() of an input as output", x.map(), 0);
        due("cost() of it", x.cost(), 6);
        x.addOutput(1);
        due("map() with a gate", x.map(), 1);
        // The registers 0 and 4 are fed by the gate 2 both: the second one passes it on.
        Latticefit y = toggle();
        y.feed(4, 2);
        due("map() of three registers", y.map(), 3);
        due("gateOf(0)", y.gateOf(0), 2);
        dueThrow("gateOf(2)", NONE, () -> y.gateOf(2));
        due("inputOf(2, 0)", y.inputOf(2, 0), 2);
        y.fix(0, 30);
        y.route(20);
        due("map() anew", y.map(), 3);
        due("cellOf(0)", y.cellOf(0), 0);
        due("isRouted()", y.isRouted(), false);
        due("fix(0, 0), as none is fixed", y.fix(0, 0), y.cost());
    }

    private static void mappingTooWide() {
        promise = 8;
        Latticefit x = wide();
        for (int j = 0; j < 5; j++) {
            x.addOutput(WIDE_OUTPUTS[j]);
        }
        due("map() of 36 blocks", x.map(), 36);
        due("cellOf(35)", x.cellOf(35), 35);
        due("isConsistent() of a full chip", x.isConsistent(), true);
        x.addOutput(WIDE_OUTPUTS[5]);
        dueThrow("map() of more than 36 blocks", UNSUPPORTED, x::map);
        dueThrow("cost() after it", STATE, x::cost);
    }

    private static void depths() {
        promise = 9;
        Latticefit x = new Latticefit();
        for (int i = 0; i < 6; i++) {
            x.addInput();
        }
        dueThrow("depth(0) before map()", STATE, () -> x.depth(0));
        dueThrow("depth(6) before map()", INDEX, () -> x.depth(6));
        x.addGate('a', 0, 1);
        x.addGate('a', 6, 2);
        x.addGate('a', 7, 3);
        x.addGate('a', 8, 4);
        x.addGate('a', 9, 5);
        x.addOutput(10);
        x.map();
        int[] due = {0, 0, 0, 0, 0, 0, 1, 1, 1, 2, 2};
        for (int node = 0; node < due.length; node++) {
            due("depth(" + node + ")", x.depth(node), due[node]);
        }
        // Of {6, 2, 3, 4, 5} five nodes; {8, 4, 5}, {7, 3, 4, 5} and no other one have the depth 2.
        due("inputs of 10", x.inputOf(1, 0) * 100 + x.inputOf(1, 1) * 10 + x.inputOf(1, 2), 458);
        dueThrow("depth(11)", INDEX, () -> x.depth(11));
        dueThrow("depth(-1)", INDEX, () -> x.depth(-1));
    }

    private static void needs() {
        promise = 10;
        Latticefit x = toggle();
        x.addGate('x', 0, 1);
        x.addGate('x', 5, 4);
        x.addGate('x', 6, 3);
        x.addOutput(7);
        dueThrow("isNeeded(0) before map()", STATE, () -> x.isNeeded(0));
        dueThrow("isNeeded(8) before map()", INDEX, () -> x.isNeeded(8));
        x.map();
        boolean[] due = {false, false, true, false, false, false, false, true};
        for (int node = 0; node < due.length; node++) {
            due("isNeeded(" + node + ")", x.isNeeded(node), due[node]);
        }
        dueThrow("isNeeded(-1)", INDEX, () -> x.isNeeded(-1));
    }

    private static void words() {
        promise = 11;
        Latticefit x = new Latticefit();
        dueThrow("word(-1) before map()", STATE, () -> x.word(-1));
        for (int i = 0; i < 4; i++) {
            x.addInput();
        }
        x.addGate('a', 0, 1);
        x.addGate('o', 2, 3);
        x.addGate('n', 2, 3);
        x.addGate('x', 4, 5);
        for (int node = 4; node < 8; node++) {
            x.addOutput(node);
        }
        x.map();
        due("word(0), and", x.word(0), 0x8888);
        due("word(1), or", x.word(1), 0xEEEE);
        due("word(2), not", x.word(2), 0x5555);
        due("word(3), 0 and 1 xor (2 or 3)", x.word(3), 0x7778);
        dueThrow("word(4)", INDEX, () -> x.word(4));
        dueThrow("word(-1)", INDEX, () -> x.word(-1));
        Latticefit y = toggle();
        y.map();
        due("word(1), passing on", y.word(1), 43690);
    }

    /** A gate whose two inputs are one node has its cut, and what it makes of it alone. */
    private static void freeCuts() {
        promise = 11;
        Latticefit x = new Latticefit();
        x.addInput();
        x.addInput();
        x.addGate('a', 0, 1);
        x.addGate('x', 2, 2);
        x.addGate('x', 2, 0);
        x.addOutput(3);
        x.addOutput(4);
        due("map()", x.map(), 2);
        due("inputOf(0, 1)", x.inputOf(0, 1), 1);
        due("word(0), nothing", x.word(0), 0);
        due("word(1), 0 and not 1", x.word(1), 0x2222);
    }

    private static void inputsOfBlocks() {
        promise = 12;
        Latticefit x = xor();
        dueThrow("inputOf(5, 5) before map()", STATE, () -> x.inputOf(5, 5));
        x.map();
        due("inputOf(0, 0)", x.inputOf(0, 0), 0);
        due("inputOf(0, 1)", x.inputOf(0, 1), 1);
        dueThrow("inputOf(0, 2)", NONE, () -> x.inputOf(0, 2));
        dueThrow("inputOf(0, -1)", NONE, () -> x.inputOf(0, -1));
        dueThrow("inputOf(1, 2)", INDEX, () -> x.inputOf(1, 2));
        Latticefit y = toggle();
        y.map();
        due("inputOf(1, 0), passed on", y.inputOf(1, 0), 0);
        dueThrow("inputOf(1, 1)", NONE, () -> y.inputOf(1, 1));
    }

    private static void gatesAndRegistersOfBlocks() {
        promise = 13;
        Latticefit x = toggle();
        dueThrow("gateOf(0) before map()", STATE, () -> x.gateOf(0));
        x.addGate('x', 0, 1);
        x.addOutput(5);
        due("map()", x.map(), 4);
        due("gateOf(0)", x.gateOf(0), 2);
        dueThrow("gateOf(1)", NONE, () -> x.gateOf(1));
        due("gateOf(3)", x.gateOf(3), 5);
        dueThrow("gateOf(4)", INDEX, () -> x.gateOf(4));
        dueThrow("gateOf(-1)", INDEX, () -> x.gateOf(-1));
        promise = 14;
        due("registerOf(0)", x.registerOf(0), 0);
        due("registerOf(1)", x.registerOf(1), 1);
        due("registerOf(2)", x.registerOf(2), 4);
        dueThrow("registerOf(3)", NONE, () -> x.registerOf(3));
        dueThrow("registerOf(4)", INDEX, () -> x.registerOf(4));
        dueThrow("registerOf(0) before map()", STATE, () -> toggle().registerOf(0));
    }

    // ---- places

    private static void fixing() {
        promise = 15;
        Latticefit x = toggle();
        dueThrow("fix(0, 36) before map()", INDEX, () -> x.fix(0, 36));
        dueThrow("fix(0, -1) before map()", INDEX, () -> x.fix(0, -1));
        dueThrow("fix(9, 0) before map()", STATE, () -> x.fix(9, 0));
        x.map();
        dueThrow("fix(3, 0)", INDEX, () -> x.fix(3, 0));
        dueThrow("fix(-1, 0)", INDEX, () -> x.fix(-1, 0));
        x.route(20);
        // The node 0 goes from crossing 1 to 0, 1 and 42, the node 1 from 0 to 43, the node 3 from
        // 0 to 2, and the node 4 from 2 to 44.
        due("fix(0, 1)", x.fix(0, 1), 7 + 7 + 2 + 6);
        due("cellOf(1)", x.cellOf(1), 0);
        due("isRouted()", x.isRouted(), false);
        dueThrow("fix(0, 5), fixed", UNSUPPORTED, () -> x.fix(0, 5));
        dueThrow("fix(1, 1), fixed there", UNSUPPORTED, () -> x.fix(1, 1));
        due("cellOf(1) afterwards", x.cellOf(1), 0);
        due("fix(2, 2), where it is", x.fix(2, 2), 22);
        dueThrow("fix(1, 2)", UNSUPPORTED, () -> x.fix(1, 2));
        due("fix(1, 35)", x.fix(1, 35), x.cost());
        due("cellOf(1) at last", x.cellOf(1), 35);
    }

    private static void annealing() {
        promise = 16;
        Latticefit x = xor();
        dueThrow("anneal(-1, 1, 1)", ARGUMENT, () -> x.anneal(-1, 1, 1));
        dueThrow("anneal(0, 0, 1)", ARGUMENT, () -> x.anneal(0, 0, 1));
        dueThrow("anneal(0, 201, 1)", ARGUMENT, () -> x.anneal(0, 201, 1));
        dueThrow("anneal(0, 1, 0)", ARGUMENT, () -> x.anneal(0, 1, 0));
        dueThrow("anneal(0, 1, 51)", ARGUMENT, () -> x.anneal(0, 1, 51));
        dueThrow("anneal(0, 1, 1) before map()", STATE, () -> x.anneal(0, 1, 1));
        x.map();
        // 12345 / 65536 is 0: cell 0. 12345 * 1103515245 + 12345 is 13622895711870 behind what the
        // modulus leaves, 1406932606: / 65536 is 21468, modulo 36 is 12. Block 0 goes to column 2,
        // row 0: the net 0 has the length 2, the net 1 the length 3, the net 2 the length 4.
        due("anneal(0, 1, 2), 2 dearer", x.anneal(0, 1, 2), 0);
        due("cellOf(0)", x.cellOf(0), 0);
        x.route(1);
        due("anneal(0, 1, 2), nothing done", x.anneal(0, 1, 2), 0);
        due("isRouted()", x.isRouted(), true);
        due("anneal(0, 1, 3)", x.anneal(0, 1, 3), 1);
        due("cellOf(0)", x.cellOf(0), 12);
        due("cost()", x.cost(), 9);
        due("isRouted()", x.isRouted(), false);
        due("anneal(0, 1, 1) back", x.anneal(0, 1, 1), 1);
        x.fix(0, 0);
        due("anneal(0, 200, 50), fixed", x.anneal(0, 200, 50), 0);
        due("anneal(MAX, 200, 50), fixed", x.anneal(Integer.MAX_VALUE, 200, 50), 0);
        cooling();
        excessHeld();
    }

    /** What 24 steps do with the heat 2 is what 8 do with 2, then 8 with 1, and 8 with 1 again. */
    private static void cooling() {
        for (int seed = 0; seed < 200; seed++) {
            Latticefit x = detour();
            Latticefit y = detour();
            x.map();
            y.map();
            int swaps = y.anneal(seed, 8, 2);
            long chance = chanceBehind(seed, 16);
            swaps += y.anneal((int) chance, 8, 1);
            chance = chanceBehind(chance, 16);
            swaps += y.anneal((int) chance, 8, 1);
            due("anneal(" + seed + ", 24, 2)", x.anneal(seed, 24, 2), swaps);
            for (int block = 0; block < 3; block++) {
                due("cellOf() behind it", x.cellOf(block), y.cellOf(block));
            }
        }
    }

    private static long chanceBehind(long seed, int numbers) {
        long chance = seed;
        for (int i = 0; i < numbers; i++) {
            chance = (chance * 1103515245L + 12345L) % 2147483648L;
        }
        return chance;
    }

    /** Three clocks of which one is fixed in the last region: all three never come together. */
    private static void excessHeld() {
        Latticefit x = toggle();
        x.map();
        x.fix(2, 35);
        due("excess() with one apart", x.excess(), 0);
        for (int seed = 0; seed < 40; seed++) {
            x.anneal(seed, 200, 50);
            due("excess() behind seed " + seed, x.excess(), 0);
        }
    }

    private static void cells() {
        promise = 17;
        Latticefit x = toggle();
        dueThrow("cellOf(0) before map()", STATE, () -> x.cellOf(0));
        x.map();
        for (int block = 0; block < 3; block++) {
            due("cellOf(" + block + ")", x.cellOf(block), block);
        }
        dueThrow("cellOf(3)", INDEX, () -> x.cellOf(3));
        dueThrow("cellOf(-1)", INDEX, () -> x.cellOf(-1));
        x.fix(2, 35);
        due("cellOf(2)", x.cellOf(2), 35);
    }

    private static void costs() {
        promise = 18;
        Latticefit x = xor();
        dueThrow("cost() before map()", STATE, x::cost);
        x.map();
        // Net 0 from 0 to 0, net 1 from 1 to 0, net 2 from 0 to 42.
        due("cost()", x.cost(), 7);
        // Cell 35 is at column 5, row 5: 10, 9 and 6.
        x.fix(0, 35);
        due("cost() in cell 35", x.cost(), 25);
        x.addGate('n', 0, 0);
        dueThrow("cost() after a change", STATE, x::cost);
    }

    private static void excesses() {
        promise = 19;
        Latticefit x = toggle();
        dueThrow("excess() before map()", STATE, x::excess);
        x.map();
        due("excess() of three clocks", x.excess(), 1);
        x.fix(2, 12);
        due("excess() with one in column 2", x.excess(), 0);
        Latticefit y = toggle();
        y.map();
        y.fix(2, 11);
        due("excess() with one in column 1", y.excess(), 1);
    }

    // ---- wires and times

    private static void routing() {
        promise = 20;
        Latticefit x = xor();
        dueThrow("route(0)", ARGUMENT, () -> x.route(0));
        dueThrow("route(21)", ARGUMENT, () -> x.route(21));
        dueThrow("route(1) before map()", STATE, () -> x.route(1));
        x.map();
        due("route(20)", x.route(20), 1);
        due("isRouted()", x.isRouted(), true);
        // Of the two edges of crossing 0, each has 2 wires: 7 nets are too many for ever.
        Latticefit y = corner();
        due("route(20) in vain", y.route(20), 20);
        due("isRouted() behind it", y.isRouted(), false);
        due("nets at crossing 0", y.netsOn(0) + y.netsOn(42), 7);
        due("route(3) in vain", y.route(3), 3);
        // The third net on the edge 0 would pay 1 + 4 for it, and 3 for the way round it.
        Latticefit z = detourRouted();
        due("netsOn(0)", z.netsOn(0), 2);
        due("netsOn(7)", z.netsOn(7), 2);
        due("netsOn(14)", z.netsOn(14), 1);
        due("wireOf(2, 42)", z.wireOf(2, 42), 0);
        due("wireOf(2, 1)", z.wireOf(2, 1), 0);
        due("wireOf(2, 48)", z.wireOf(2, 48), 0);
        // These two are of the runs under shared/tests.
        Latticefit w = tight();
        due("route(1) of a tight circuit", w.route(1), 1);
        due("isRouted()", w.isRouted(), false);
        due("route(6) of it", w.route(6), 3);
        due("isRouted()", w.isRouted(), true);
    }

    /** The block in cell 0 has a register, a gate and 4 inputs; all 6 and input 0 go elsewhere. */
    private static Latticefit corner() {
        Latticefit x = new Latticefit();
        for (int i = 0; i < 5; i++) {
            x.addInput();
        }
        x.addRegister(false, 0);
        x.addGate('a', 1, 2);
        x.addGate('a', 3, 4);
        x.addGate('o', 6, 7);
        x.feed(5, 8);
        x.addOutput(0);
        x.addOutput(5);
        x.addOutput(8);
        x.map();
        return x;
    }

    private static void routed() {
        promise = 21;
        Latticefit x = xor();
        due("isRouted() before map()", x.isRouted(), false);
        x.map();
        due("isRouted() before route()", x.isRouted(), false);
        x.route(1);
        due("isRouted()", x.isRouted(), true);
        x.build();
        x.start();
        due("isRouted() when started", x.isRouted(), true);
        x.addInput();
        due("isRouted() after a change", x.isRouted(), false);
        x.map();
        x.route(1);
        x.feed(x.addRegister(false, 0), 0);
        due("isRouted() after feeding", x.isRouted(), false);
        x.map();
        x.route(1);
        dueThrow("route(0)", ARGUMENT, () -> x.route(0));
        due("isRouted() behind a refused call", x.isRouted(), true);
        x.addOutput(0);
        due("isRouted() after an output", x.isRouted(), false);
        Latticefit y = tight();
        y.route(6);
        y.build();
        y.start();
        due("route(1) that fails behind start()", y.route(1), 1);
        due("isRouted()", y.isRouted(), false);
        dueThrow("fill()", STATE, y::fill);
        dueThrow("wordAt(0, 0)", STATE, () -> y.wordAt(0, 0));
        y.route(6);
        due("isRouted()", y.isRouted(), true);
        dueThrow("wordAt(0, 0), routed anew but not built anew", STATE, () -> y.wordAt(0, 0));
        y.anneal(5, 200, 50);
        due("isRouted() behind swaps", y.isRouted(), false);
    }

    /** A circuit of five blocks, which one round does not suffice to route. */
    private static Latticefit tight() {
        Latticefit x = new Latticefit();
        for (int i = 0; i < 6; i++) {
            x.addInput();
        }
        x.addGate('a', 0, 1);
        x.addGate('o', 2, 3);
        x.addGate('x', 4, 5);
        x.addGate('a', 6, 7);
        x.addGate('o', 9, 8);
        x.addGate('x', 10, 0);
        x.addGate('n', 11, 0);
        x.addGate('a', 12, 1);
        x.addGate('a', 11, 11);
        x.addOutput(13);
        x.addOutput(14);
        x.addOutput(0);
        x.map();
        x.anneal(1, 100, 9);
        x.anneal(1, 100, 1);
        return x;
    }

    private static void netsOnEdges() {
        promise = 22;
        Latticefit x = xor();
        dueThrow("netsOn(84)", INDEX, () -> x.netsOn(84));
        dueThrow("netsOn(-1)", INDEX, () -> x.netsOn(-1));
        x.map();
        due("netsOn(0) before route()", x.netsOn(0), 0);
        x.route(1);
        for (int edge = 0; edge < 84; edge++) {
            boolean isTaken = edge == 42 || (edge < 42 && edge % 7 == 0);
            due("netsOn(" + edge + ")", x.netsOn(edge), isTaken ? 1 : 0);
        }
        x.fix(0, 35);
        due("netsOn(0) behind fix()", x.netsOn(0), 1);
        x.map();
        due("netsOn(0) behind map()", x.netsOn(0), 0);
        netsOnBehindChanges();
        netsOnBehindRefusedMap();
        Latticefit y = tight();
        y.route(1);
        int most = 0;
        for (int edge = 0; edge < 84; edge++) {
            most = Math.max(most, y.netsOn(edge));
        }
        due("more than 2 nets behind a route() that failed", most > 2, true);
    }

    private static void netsOnBehindChanges() {
        Latticefit x = new Latticefit();
        x.addInput();
        int register = x.addRegister(false, 0);
        x.addOutput(0);
        routedOn0(x);
        x.addInput();
        noNets(x, "addInput()");
        x.addRegister(true, 1);
        noNets(x, "addRegister()");
        x.addGate('n', 0, 0);
        noNets(x, "addGate()");
        x.feed(register, 0);
        noNets(x, "feed()");
        x.feed(register, 0);
        noNets(x, "feed() by the same node");
        x.addOutput(1);
        noNets(x, "addOutput()");
        dueThrow("addRegister(false, 3)", ARGUMENT, () -> x.addRegister(false, 3));
        dueThrow("addGate('?', 0, 0)", ARGUMENT, () -> x.addGate('?', 0, 0));
        dueThrow("feed(0, 0)", STATE, () -> x.feed(0, 0));
        dueThrow("addOutput(48)", INDEX, () -> x.addOutput(48));
        due("netsOn(0) > 0 behind changes that were refused", x.netsOn(0) > 0, true);
    }

    /** Asks behind a change, a refused route() and map(); leaves it routed anew. */
    private static void noNets(Latticefit x, String change) {
        dueThrow("route(20) behind " + change, STATE, () -> x.route(20));
        due("nets on all edges behind " + change, netsOnAll(x), 0);
        dueThrow("netsOn(84) behind " + change, INDEX, () -> x.netsOn(84));
        x.map();
        due("nets on all edges behind " + change + " and map()", netsOnAll(x), 0);
        routedOn0(x);
    }

    private static void routedOn0(Latticefit x) {
        x.map();
        x.route(20);
        due("netsOn(0) > 0 of the routed circuit", x.netsOn(0) > 0, true);
    }

    private static void netsOnBehindRefusedMap() {
        Latticefit x = wide();
        for (int j = 0; j < 5; j++) {
            x.addOutput(WIDE_OUTPUTS[j]);
        }
        x.map();
        x.route(1);
        due("nets on all edges > 0", netsOnAll(x) > 0, true);
        x.addOutput(WIDE_OUTPUTS[5]);
        dueThrow("map() of more than 36 blocks", UNSUPPORTED, x::map);
        due("nets on all edges behind a map() that was refused", netsOnAll(x), 0);
    }

    private static int netsOnAll(Latticefit x) {
        int sum = 0;
        for (int edge = 0; edge < 84; edge++) {
            sum += x.netsOn(edge);
        }
        return sum;
    }

    private static void wires() {
        promise = 23;
        Latticefit x = xorMapped();
        dueThrow("wireOf(3, 0) before route()", INDEX, () -> x.wireOf(3, 0));
        dueThrow("wireOf(0, 84) before route()", INDEX, () -> x.wireOf(0, 84));
        dueThrow("wireOf(0, -1) before route()", INDEX, () -> x.wireOf(0, -1));
        dueThrow("wireOf(2, 0) before route()", STATE, () -> x.wireOf(2, 0));
        x.route(1);
        due("wireOf(2, 0)", x.wireOf(2, 0), 0);
        due("wireOf(2, 35)", x.wireOf(2, 35), 0);
        due("wireOf(1, 42)", x.wireOf(1, 42), 0);
        dueThrow("wireOf(0, 0)", NONE, () -> x.wireOf(0, 0));
        dueThrow("wireOf(2, 42)", NONE, () -> x.wireOf(2, 42));
        Latticefit y = detourRouted();
        due("wireOf(0, 0)", y.wireOf(0, 0), 0);
        due("wireOf(1, 0)", y.wireOf(1, 0), 1);
        dueThrow("wireOf(2, 0)", NONE, () -> y.wireOf(2, 0));
        dueThrow("wireOf(3, 0), without a net", NONE, () -> y.wireOf(3, 0));
        due("wireOf(0, 7)", y.wireOf(0, 7), 0);
        due("wireOf(1, 7)", y.wireOf(1, 7), 1);
        due("wireOf(0, 14)", y.wireOf(0, 14), 0);
    }

    private static void timesOfNodes() {
        promise = 24;
        Latticefit x = xorMapped();
        dueThrow("timeOf(3) before route()", INDEX, () -> x.timeOf(3));
        dueThrow("timeOf(-1) before route()", INDEX, () -> x.timeOf(-1));
        dueThrow("timeOf(0) before route()", STATE, () -> x.timeOf(0));
        x.route(1);
        due("timeOf(0)", x.timeOf(0), 0);
        due("timeOf(1)", x.timeOf(1), 0);
        due("timeOf(2)", x.timeOf(2), 4);
        x.fix(0, 35);
        x.route(1);
        due("timeOf(2) in cell 35", x.timeOf(2), 13);
        Latticefit y = xor();
        y.addGate('n', 2, 0);
        y.addGate('n', 3, 0);
        y.addRegister(false, 0);
        y.addOutput(4);
        y.map();
        y.route(20);
        dueThrow("timeOf(3), without a table", NONE, () -> y.timeOf(3));
        due("timeOf(5), a register", y.timeOf(5), 0);
        due("timeOf(2), before a way round", detourRouted().timeOf(2), 3);
    }

    private static void slowestTimes() {
        promise = 25;
        Latticefit x = xorMapped();
        dueThrow("slowest() before route()", STATE, x::slowest);
        x.route(1);
        due("slowest()", x.slowest(), 10);
        x.fix(0, 35);
        x.route(1);
        // 13, and from column 5, row 5 to column 6, row 0 there are 6 edges.
        due("slowest() in cell 35", x.slowest(), 19);
        // The register 1 is fed by the input 0, far away: 3 plus 10 edges; it is no output.
        Latticefit y = new Latticefit();
        y.addInput();
        y.addRegister(false, 0);
        y.feed(1, 0);
        y.addOutput(0);
        y.map();
        y.fix(0, 35);
        y.route(1);
        due("slowest() of a block that passes on", y.slowest(), 13);
        // The register's gate in cell 35 is 13 there, and nothing arrives later.
        Latticefit z = new Latticefit();
        z.addInput();
        z.addRegister(false, 0);
        z.addGate('n', 0, 0);
        z.feed(1, 2);
        z.addOutput(0);
        z.map();
        z.fix(0, 35);
        z.route(1);
        due("slowest() of a register's gate", z.slowest(), 13);
        // The gate 2 has its value at 3, it arrives at 6, and is passed on at 9.
        due("slowest() over a way round", detourRouted().slowest(), 9);
    }

    private static void stretches() {
        promise = 26;
        Latticefit x = xorMapped();
        dueThrow("worstStretch() before route()", STATE, x::worstStretch);
        x.route(1);
        due("worstStretch()", x.worstStretch(), 1.0);
        // The input 0 goes to all outputs: the length is 6 + 5, and the tree has the row 0, and 5
        // edges more.
        Latticefit y = new Latticefit();
        y.addInput();
        for (int i = 0; i < 6; i++) {
            y.addOutput(0);
        }
        y.map();
        y.route(1);
        due("worstStretch() along a line of sinks", y.worstStretch(), 1.0);
        due("worstStretch() of a way round", detourRouted().worstStretch(), 3.0);
    }

    private static void fills() {
        promise = 41;
        Latticefit x = xorMapped();
        dueThrow("fill() before route()", STATE, x::fill);
        x.route(1);
        due("fill()", x.fill(), 7f / 168f);
        x.fix(0, 35);
        dueThrow("fill() behind fix()", STATE, x::fill);
        x.route(1);
        due("fill() in cell 35", x.fill(), 25f / 168f);
    }

    // ---- bitstream

    private static void building() {
        promise = 27;
        Latticefit x = xorMapped();
        dueThrow("build() before route()", STATE, x::build);
        x.route(1);
        // A table with 2 codes, a wire for the net 1, 6 for the net 2, an output.
        due("build()", x.build(), 11);
        due("start()", x.start(), 1);
        due("build() anew", x.build(), 11);
        dueThrow("tick(0) behind build() anew", STATE, () -> x.tick(0));
        // Three blocks with 3 words each, 6 + 2 + 3 wires, and the output.
        Latticefit y = detourRouted();
        due("build() of three blocks", y.build(), 21);
        y.anneal(1, 200, 50);
        due("wordAt(0, 1), as all blocks are fixed", y.wordAt(0, 1), 300);
        Latticefit z = toggle();
        z.map();
        z.route(20);
        z.build();
        z.fix(0, 0);
        dueThrow("build() behind fix()", STATE, z::build);
    }

    private static void wordsOfFrames() {
        promise = 28;
        Latticefit x = xorRouted();
        dueThrow("wordAt(14, 0) before build()", INDEX, () -> x.wordAt(14, 0));
        dueThrow("wordAt(-1, 0) before build()", INDEX, () -> x.wordAt(-1, 0));
        dueThrow("wordAt(0, 36) before build()", STATE, () -> x.wordAt(0, 36));
        x.build();
        int[] lengths = {36, 36, 36, 36, 36, 36, 26, 26, 26, 26, 26, 26, 12, 6};
        int used = 0;
        for (int frame = 0; frame < 14; frame++) {
            int at = frame;
            int length = lengths[frame];
            for (int i = 0; i < length; i++) {
                used += x.wordAt(frame, i) != 0 ? 1 : 0;
            }
            dueThrow("wordAt() behind the frame", NONE, () -> x.wordAt(at, length));
            dueThrow("wordAt() ahead of the frame", NONE, () -> x.wordAt(at, -1));
        }
        due("words that are not 0", used, 11);
        due("wordAt(0, 0)", x.wordAt(0, 0), 26214);
        due("wordAt(0, 1)", x.wordAt(0, 1), 300);
        due("wordAt(0, 2)", x.wordAt(0, 2), 85);
        due("wordAt(6, 0)", x.wordAt(6, 0), 200);
        due("wordAt(6, 14)", x.wordAt(6, 14), 301);
        for (int column = 1; column < 6; column++) {
            due("wordAt(column)", x.wordAt(6 + column, 0), 1 + 14 * (column - 1));
        }
        due("wordAt(13, 0)", x.wordAt(13, 0), 71);
        registerWords();
    }

    private static void registerWords() {
        Latticefit x = toggle();
        x.map();
        x.fix(0, 35);
        x.route(20);
        x.build();
        due("the table in cell 35", x.wordAt(5, 30), 0x5555);
        due("its code, the register there", x.wordAt(5, 31), 201 + 70);
        due("its register, one, clock 1", x.wordAt(5, 35), 1 + 2 + 4);
        due("the register in cell 1, zero, clock 2", x.wordAt(0, 11), 1 + 8);
        due("the register in cell 2, zero, clock 0", x.wordAt(0, 17), 1);
        due("no register in cell 0", x.wordAt(0, 5), 0);
        Latticefit y = detourRouted();
        y.build();
        due("the edge 0, wire 0", y.wordAt(6, 0), 300);
        due("the edge 0, wire 1", y.wordAt(6, 1), 201);
        due("the edge 42, wire 0", y.wordAt(6, 14), 200);
        due("the edge 1, wire 0", y.wordAt(6, 2), 85);
        due("the edge 48, wire 0", y.wordAt(7, 14), 3);
        due("the edge 7, wire 0", y.wordAt(7, 0), 1);
        due("the edge 7, wire 1", y.wordAt(7, 1), 2);
        due("the input in cell 0", y.wordAt(0, 1), 300);
        due("the input in cell 6, by edge 48", y.wordAt(1, 1), 97);
        due("the input in cell 12, by edge 7", y.wordAt(2, 1), 16);
    }

    private static void checks() {
        promise = 29;
        Latticefit x = xorRouted();
        dueThrow("check(14) before build()", INDEX, () -> x.check(14));
        dueThrow("check(-1) before build()", INDEX, () -> x.check(-1));
        dueThrow("check(0) before build()", STATE, () -> x.check(0));
        x.build();
        // 31 + 71 is 102; then five times 31: 3162, 32501, 24716, 45465, 33474.
        due("check(13)", x.check(13), 33474);
        // Twelve words of 0: 31 to the power of 12.
        long power = 1;
        for (int i = 0; i < 12; i++) {
            power = power * 31 % 65521;
        }
        due("check(12)", x.check(12), (int) power);
    }

    // ---- chip

    private static void starting() {
        promise = 30;
        Latticefit x = xorRouted();
        dueThrow("start() before build()", STATE, x::start);
        x.build();
        due("start()", x.start(), 1);
        x.setInput(0, true);
        x.flip(13, 0, 3);
        x.tick(0);
        due("start() anew", x.start(), 1);
        due("setInput(0, false), false again", x.setInput(0, false), false);
        due("isBad(13)", x.isBad(13), false);
        due("tick(0), counted anew", x.tick(0), 1L);
        Latticefit y = toggleStarted();
        y.tick(1);
        due("chipOutput(0) behind a tick", y.chipOutput(0), false);
        due("start() of three outputs", y.start(), 3);
        due("chipOutput(0)", y.chipOutput(0), true);
        due("circuitOutput(0)", y.circuitOutput(0), true);
        y.addInput();
        dueThrow("start() behind a change", STATE, y::start);
    }

    private static void settingInputs() {
        promise = 31;
        Latticefit x = xorBuilt();
        dueThrow("setInput(2, true) before start()", INDEX, () -> x.setInput(2, true));
        dueThrow("setInput(-1, true) before start()", INDEX, () -> x.setInput(-1, true));
        dueThrow("setInput(0, true) before start()", STATE, () -> x.setInput(0, true));
        x.start();
        due("setInput(1, true)", x.setInput(1, true), false);
        due("setInput(1, true)", x.setInput(1, true), true);
        due("chipOutput(0)", x.chipOutput(0), true);
        due("circuitOutput(0)", x.circuitOutput(0), true);
        due("setInput(1, false)", x.setInput(1, false), true);
        due("setInput(0, false)", x.setInput(0, false), false);
    }

    private static void ticking() {
        promise = 32;
        Latticefit x = toggle();
        dueThrow("tick(3) before start()", ARGUMENT, () -> x.tick(3));
        dueThrow("tick(-1) before start()", ARGUMENT, () -> x.tick(-1));
        dueThrow("tick(0) before start()", STATE, () -> x.tick(0));
        Latticefit y = toggleStarted();
        y.setInput(0, true);
        due("tick(2)", y.tick(2), 1L);
        due("outputs, the one passed on", outputsOf(y), "110");
        due("tick(1)", y.tick(1), 2L);
        due("outputs, inverted", outputsOf(y), "010");
        due("tick(0)", y.tick(0), 3L);
        due("outputs, from the input", outputsOf(y), "011");
        due("tick(2)", y.tick(2), 4L);
        due("outputs, the zero passed on", outputsOf(y), "001");
        // Two registers with one clock that feed each other exchange their values at once.
        Latticefit z = new Latticefit();
        z.addRegister(true, 2);
        z.addRegister(false, 2);
        z.feed(0, 1);
        z.feed(1, 0);
        z.addOutput(0);
        z.addOutput(1);
        z.map();
        z.route(20);
        z.build();
        z.start();
        z.tick(2);
        due("outputs, exchanged", outputsOf(z), "01");
        // The word of a wire that stands where a cell's last word would, were there one more cell.
        due("flip(6, 5, 0)", z.flip(6, 5, 0) % 2, 1);
        due("tick(0)", z.tick(0), 2L);
        due("outputs behind it", outputsOf(z), "01");
    }

    private static String outputsOf(Latticefit x) {
        StringBuilder chip = new StringBuilder();
        StringBuilder circuit = new StringBuilder();
        try {
            for (int j = 0; j < 6; j++) {
                chip.append(x.chipOutput(j) ? '1' : '0');
                circuit.append(x.circuitOutput(j) ? '1' : '0');
            }
        } catch (IndexOutOfBoundsException e) {
            due("the circuit's outputs", circuit.toString(), chip.toString());
        }
        return chip.toString();
    }

    private static void circuitOutputs() {
        promise = 33;
        Latticefit x = xorBuilt();
        dueThrow("circuitOutput(1) before start()", INDEX, () -> x.circuitOutput(1));
        dueThrow("circuitOutput(-1) before start()", INDEX, () -> x.circuitOutput(-1));
        dueThrow("circuitOutput(0) before start()", STATE, () -> x.circuitOutput(0));
        Latticefit y = new Latticefit();
        y.addInput();
        y.addInput();
        y.addOutput(y.addGate('a', 0, 1));
        y.addOutput(y.addGate('o', 0, 1));
        y.addOutput(y.addGate('x', 0, 1));
        y.addOutput(y.addGate('n', 0, 1));
        y.addOutput(1);
        y.map();
        y.route(20);
        y.build();
        y.start();
        String[] due = {"00010", "01100", "01111", "11001"};
        for (int k = 0; k < 4; k++) {
            y.setInput(0, k % 2 == 1);
            y.setInput(1, k / 2 == 1);
            due("outputs for " + k, outputsOf(y), due[k]);
        }
        y.flip(13, 0, 0);
        due("circuitOutput(0), whatever is flipped", y.circuitOutput(0), true);
    }

    private static void chipOutputs() {
        promise = 34;
        Latticefit x = xorBuilt();
        dueThrow("chipOutput(1) before start()", INDEX, () -> x.chipOutput(1));
        dueThrow("chipOutput(-1) before start()", INDEX, () -> x.chipOutput(-1));
        dueThrow("chipOutput(0) before start()", STATE, () -> x.chipOutput(0));
        x.start();
        // 71 becomes 70, the wire 1 of the edge 34, which is from nowhere.
        x.setInput(0, true);
        due("chipOutput(0)", x.chipOutput(0), true);
        x.flip(13, 0, 0);
        due("chipOutput(0) from nowhere", x.chipOutput(0), false);
        x.flip(13, 0, 0);
        // The word of the wire 0 of the edge 0 becomes 200 + 1, the register of cell 0.
        x.flip(6, 0, 0);
        due("chipOutput(0) from a register", x.chipOutput(0), false);
        x.flip(6, 0, 0);
        // It becomes 1, itself, in a ring: 200 is 11001000, and 1 is 00000001.
        for (int bit : new int[] {0, 3, 6, 7}) {
            x.flip(6, 0, bit);
        }
        due("chipOutput(0) from a ring", x.chipOutput(0), false);
        x.scrub();
        // The empty table in cell 1 is one for the row 0, and codes beyond all are false.
        due("chipOutput(0) again", x.chipOutput(0), true);
        rings();
        farCodes();
    }

    private static void flipAll(Latticefit x, int frame, int index, int bits) {
        for (int bit = 0; bit < 16; bit++) {
            if ((bits >> bit & 1) == 1) {
                x.flip(frame, index, bit);
            }
        }
    }

    /** The codes 168, the last wire, and 169, 199, 272, 299 and 306, of nothing. */
    private static void farCodes() {
        Latticefit x = xorStarted();
        x.setInput(0, true);
        x.setInput(1, true);
        flipAll(x, 13, 0, 71 ^ 168);
        due("chipOutput(0) from the wire 168, of nothing", x.chipOutput(0), false);
        flipAll(x, 12, 11, 300);
        due("chipOutput(0) from the wire 168, of an input", x.chipOutput(0), true);
        due("circuitOutput(0)", x.circuitOutput(0), false);
        flipAll(x, 12, 11, 300 ^ 168);
        due("chipOutput(0) from a wire of itself", x.chipOutput(0), false);
        int before = 168;
        for (int code : new int[] {169, 199, 272, 299, 306, 65535}) {
            flipAll(x, 13, 0, before ^ code);
            flipAll(x, 0, 1, (before == 168 ? 300 : before) ^ code);
            due("chipOutput(0) of " + code, x.chipOutput(0), false);
            dueThrow("sourceOf(0, 0) of " + code, NONE, () -> x.sourceOf(0, 0));
            before = code;
        }
    }

    /** A table that inverts itself swings: after 40 times it has the value of the first one. */
    private static void rings() {
        Latticefit x = xorStarted();
        // In cell 1, of the frame 0: the word 1 (one in row 0), its input the table of cell 1, 202.
        x.flip(0, 6, 0);
        for (int bit : new int[] {1, 3, 6, 7}) {
            x.flip(0, 7, bit);
        }
        // The output 0 has the table of cell 1: 71 is 01000111, and 202 is 11001010.
        for (int bit : new int[] {0, 2, 3, 7}) {
            x.flip(13, 0, bit);
        }
        due("chipOutput(0) of a swinging table, 40 times", x.chipOutput(0), false);
        due("sourceOf(1, 0), no gate there", thrown(() -> x.sourceOf(1, 0)), NONE);
        // With the word 3 it is one from the first time on.
        x.flip(0, 6, 1);
        due("chipOutput(0) of a table that stays", x.chipOutput(0), true);
    }

    private static Object thrown(Call call) {
        try {
            return call.of();
        } catch (RuntimeException e) {
            return e.getClass();
        }
    }

    private static void chipRegisters() {
        promise = 35;
        Latticefit x = xorBuilt();
        dueThrow("chipRegister(36) before start()", INDEX, () -> x.chipRegister(36));
        dueThrow("chipRegister(-1) before start()", INDEX, () -> x.chipRegister(-1));
        dueThrow("chipRegister(35) before start()", STATE, () -> x.chipRegister(35));
        Latticefit y = toggleStarted();
        due("chipRegister(0)", y.chipRegister(0), true);
        due("chipRegister(1)", y.chipRegister(1), false);
        due("chipRegister(35)", y.chipRegister(35), false);
        // The register in cell 0 is taken off: it keeps its value, and the output has it still.
        y.flip(0, 5, 0);
        y.tick(1);
        due("chipRegister(0) keeps", y.chipRegister(0), true);
        due("chipOutput(0) tells it", y.chipOutput(0), true);
        due("circuitOutput(0)", y.circuitOutput(0), false);
        y.flip(0, 5, 0);
        // Its clock 1 becomes 3, which never ticks.
        y.flip(0, 5, 3);
        y.tick(1);
        due("chipRegister(0) with the clock 3", y.chipRegister(0), true);
        y.flip(0, 5, 3);
        y.tick(1);
        due("chipRegister(0) ticks again", y.chipRegister(0), false);
        // Bits beyond the clock do not matter; a cell without a block gets a register.
        y.flip(0, 5, 4);
        y.flip(5, 35, 0);
        y.flip(5, 30, 0);
        y.tick(1);
        due("chipRegister(0)", y.chipRegister(0), true);
        due("chipRegister(35), other clock", y.chipRegister(35), false);
        y.tick(0);
        due("chipRegister(35), a table of one", y.chipRegister(35), true);
        y.start();
        due("chipRegister(35) anew", y.chipRegister(35), false);
    }

    private static void sources() {
        promise = 36;
        Latticefit x = xorBuilt();
        dueThrow("sourceOf(36, 0) before start()", INDEX, () -> x.sourceOf(36, 0));
        dueThrow("sourceOf(-1, 0) before start()", INDEX, () -> x.sourceOf(-1, 0));
        dueThrow("sourceOf(0, 4) before start()", INDEX, () -> x.sourceOf(0, 4));
        dueThrow("sourceOf(0, -1) before start()", INDEX, () -> x.sourceOf(0, -1));
        dueThrow("sourceOf(0, 0) before start()", STATE, () -> x.sourceOf(0, 0));
        x.start();
        due("sourceOf(0, 0)", x.sourceOf(0, 0), 0);
        due("sourceOf(0, 1)", x.sourceOf(0, 1), 1);
        dueThrow("sourceOf(0, 2)", NONE, () -> x.sourceOf(0, 2));
        dueThrow("sourceOf(35, 0)", NONE, () -> x.sourceOf(35, 0));
        // 300 becomes 302 and, from 301, 303: inputs that are not there.
        x.flip(0, 1, 1);
        dueThrow("sourceOf(0, 0) of 302", NONE, () -> x.sourceOf(0, 0));
        x.flip(0, 1, 1);
        x.flip(0, 1, 0);
        due("sourceOf(0, 0) of 301", x.sourceOf(0, 0), 1);
        x.flip(0, 1, 1);
        dueThrow("sourceOf(0, 0) of 303", NONE, () -> x.sourceOf(0, 0));
        Latticefit y = toggleStarted();
        due("sourceOf(0, 0), a register", y.sourceOf(0, 0), 0);
        due("sourceOf(1, 0), a register", y.sourceOf(1, 0), 0);
        due("sourceOf(2, 0), an input", y.sourceOf(2, 0), 3);
        // 201 becomes 200, the gate there; 203 the register of cell 1, and 202 its table.
        y.flip(0, 1, 0);
        due("sourceOf(0, 0), a gate", y.sourceOf(0, 0), 2);
        y.flip(0, 1, 1);
        dueThrow("sourceOf(0, 0) of 202", NONE, () -> y.sourceOf(0, 0));
        y.flip(0, 1, 0);
        due("sourceOf(0, 0) of 203", y.sourceOf(0, 0), 1);
        // 207 is the register of cell 3, which has no block.
        y.flip(0, 1, 2);
        dueThrow("sourceOf(0, 0) of 207", NONE, () -> y.sourceOf(0, 0));
    }

    private static void flips() {
        promise = 37;
        Latticefit x = xorBuilt();
        dueThrow("flip(14, 0, 0) before start()", INDEX, () -> x.flip(14, 0, 0));
        dueThrow("flip(-1, 0, 0) before start()", INDEX, () -> x.flip(-1, 0, 0));
        dueThrow("flip(0, 99, 16) before start()", INDEX, () -> x.flip(0, 99, 16));
        dueThrow("flip(0, 0, -1) before start()", INDEX, () -> x.flip(0, 0, -1));
        dueThrow("flip(0, 99, 0) before start()", STATE, () -> x.flip(0, 99, 0));
        x.start();
        due("flip(0, 0, 15)", x.flip(0, 0, 15), 26214 + 32768);
        due("flip(0, 0, 15) back", x.flip(0, 0, 15), 26214);
        due("flip(0, 0, 1)", x.flip(0, 0, 1), 26212);
        due("wordAt(0, 0) as before", x.wordAt(0, 0), 26214);
        int[] lengths = {36, 36, 36, 36, 36, 36, 26, 26, 26, 26, 26, 26, 12, 6};
        for (int frame = 0; frame < 14; frame++) {
            int at = frame;
            dueThrow("flip() behind the frame", NONE, () -> x.flip(at, lengths[at], 0));
            dueThrow("flip() ahead of the frame", NONE, () -> x.flip(at, -1, 0));
        }
    }

    private static void badFrames() {
        promise = 38;
        Latticefit x = xorBuilt();
        dueThrow("isBad(14) before start()", INDEX, () -> x.isBad(14));
        dueThrow("isBad(-1) before start()", INDEX, () -> x.isBad(-1));
        dueThrow("isBad(0) before start()", STATE, () -> x.isBad(0));
        x.start();
        for (int frame = 0; frame < 14; frame++) {
            due("isBad(" + frame + ")", x.isBad(frame), false);
        }
        x.flip(12, 11, 9);
        due("isBad(12)", x.isBad(12), true);
        due("isBad(11)", x.isBad(11), false);
        x.flip(12, 11, 9);
        due("isBad(12), flipped back", x.isBad(12), false);
        flipAll(x, 12, 3, 65521);
        due("isBad(12) with 65521 for 0, the same check", x.isBad(12), false);
        due("scrub() leaves it", x.scrub(), 0);
        due("flip(12, 3, 0) tells it", x.flip(12, 3, 0), 65520);
        due("isBad(12) now", x.isBad(12), true);
    }

    private static void scrubs() {
        promise = 39;
        dueThrow("scrub() before start()", STATE, () -> xorBuilt().scrub());
        Latticefit x = toggleStarted();
        due("scrub()", x.scrub(), 0);
        x.tick(1);
        x.flip(0, 0, 0);
        x.flip(0, 0, 1);
        x.flip(13, 0, 4);
        x.flip(9, 2, 5);
        due("scrub() of three", x.scrub(), 3);
        due("isBad(0)", x.isBad(0), false);
        due("flip(0, 0, 0)", x.flip(0, 0, 0), 0x5555 - 1);
        due("chipRegister(0) keeps its value", x.chipRegister(0), false);
        due("tick(0), counted on", x.tick(0), 2L);
    }

    private static void agreements() {
        promise = 40;
        dueThrow("agrees() before start()", STATE, () -> xorBuilt().agrees());
        Latticefit x = toggleStarted();
        due("agrees()", x.agrees(), true);
        x.tick(1);
        due("agrees() behind a tick", x.agrees(), true);
        // The register of cell 0 takes the wrong value, though its output is told by another one.
        Latticefit y = new Latticefit();
        y.addRegister(false, 0);
        y.addInput();
        y.addOutput(1);
        y.map();
        y.route(20);
        y.build();
        y.start();
        y.flip(0, 0, 0);
        due("agrees() ahead of the tick", y.agrees(), true);
        y.tick(0);
        due("agrees() with a register that differs", y.agrees(), false);
        due("chipOutput(0) all the same", y.chipOutput(0), y.circuitOutput(0));
        Latticefit z = xorStarted();
        z.flip(0, 0, 0);
        due("agrees() with an output that differs", z.agrees(), false);
        z.setInput(0, true);
        due("agrees() in another row", z.agrees(), true);
    }

    private static void consistency() {
        promise = 42;
        Latticefit x = toggle();
        due("isConsistent()", x.isConsistent(), true);
        x.map();
        x.fix(0, 20);
        x.anneal(1, 200, 50);
        due("isConsistent() when placed", x.isConsistent(), true);
        x.route(20);
        x.build();
        x.start();
        x.flip(3, 3, 3);
        due("isConsistent() when flipped", x.isConsistent(), true);
        Latticefit y = tight();
        y.route(1);
        due("isConsistent() when crowded", y.isConsistent(), true);
    }
}
