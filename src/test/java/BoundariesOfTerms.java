import java.util.NoSuchElementException;

/**
 * The sentences of 'Terms' up to the swaps: circuit, cuts, tables, blocks, crossings, nets, clocks
 * and swaps, each with the case just inside its boundary and the one just outside. What is due was
 * worked out by hand; the circuits of the words 'found by searching' are those with the fewest
 * nodes on which a wrong reading of the sentence gives another answer.
 */
public final class BoundariesOfTerms {
    private static final Class<?> INDEX = IndexOutOfBoundsException.class;
    private static final Class<?> STATE = IllegalStateException.class;
    private static final Class<?> UNSUPPORTED = UnsupportedOperationException.class;
    private static final int MAX = Integer.MAX_VALUE;

    private static final String CROWD = "r0 r0 r0 r0 r0 r0 r0 r0 "
            + "a2,7 a6,1 a8,1 a4,8 a11,1 a4,12 a5,11 a13,8 a9,11 a2,6 a11,0 a6,15 a17,16 a8,16 "
            + "a10,19 a19,5 a6,13 a14,12 a20,25 a16,23 a27,21 a13,11 a11,1 a17,8 a31,30 a29,18 "
            + "a30,16 a33,22 a25,9 a34,4 a24,36 a26,30 a10,31 a15,9 a36,40 a36,6 a19,27 a32,28 "
            + "a42,37 a45,35 f0,44 f1,38 f2,38 f3,47 f4,26 f5,46 f6,38 f7,1";

    private static String sentence;
    private static int asked;
    private static int wrong;

    private interface Call {
        Object of();
    }

    private static void says(String words) {
        sentence = words;
    }

    private static void due(String call, Object got, Object want) {
        asked++;
        if (!want.equals(got)) {
            wrong++;
            System.out.println("[" + sentence + "] " + call + " answered " + got + ", due is "
                    + want);
        }
    }

    private static void answers(String call, Object want, Call of) {
        Object got;
        try {
            got = of.of();
        } catch (RuntimeException e) {
            got = e.getClass();
        }
        due(call, got, want);
    }

    // ---- circuits: i (input), r and R (register, zero or one at first, with its clock), gates
    // with their inputs, f (feed), > (output)

    private static Latticefit of(String circuit) {
        Latticefit x = new Latticefit();
        for (String part : circuit.split(" ")) {
            put(x, part.charAt(0), part.substring(1).split(","));
        }
        return x;
    }

    private static void put(Latticefit x, char what, String[] numbers) {
        int one = numbers[0].isEmpty() ? 0 : Integer.parseInt(numbers[0]);
        int other = numbers.length < 2 ? 0 : Integer.parseInt(numbers[1]);
        switch (what) {
            case 'i' -> x.addInput();
            case 'r' -> x.addRegister(false, one);
            case 'R' -> x.addRegister(true, one);
            case 'f' -> x.feed(one, other);
            case '>' -> x.addOutput(one);
            default -> x.addGate(what, one, other);
        }
    }

    private static Latticefit mapped(String circuit) {
        Latticefit x = of(circuit);
        x.map();
        return x;
    }

    private static Latticefit started(String circuit) {
        Latticefit x = mapped(circuit);
        x.route(20);
        x.build();
        x.start();
        return x;
    }

    /** The depths of all nodes, with a dot behind each needed gate. */
    private static String depthsOf(Latticefit x, int nodes) {
        StringBuilder depths = new StringBuilder();
        for (int node = 0; node < nodes; node++) {
            depths.append(x.depth(node)).append(x.isNeeded(node) ? "." : "");
        }
        return depths.toString();
    }

    /** Each block as its register, its gate, the word of its table and its inputs. */
    private static String blocksOf(Latticefit x, int blocks) {
        StringBuilder all = new StringBuilder();
        for (int at = 0; at < blocks; at++) {
            int block = at;
            all.append(ifThere(" r", () -> x.registerOf(block)));
            all.append(ifThere(" g", () -> x.gateOf(block)));
            all.append(' ').append(x.word(block));
            for (int i = 0; i < 5; i++) {
                int index = i;
                all.append(ifThere(i == 0 ? ":" : ",", () -> x.inputOf(block, index)));
            }
        }
        return all.toString().trim();
    }

    private static String ifThere(String before, Call of) {
        try {
            return before + of.of();
        } catch (NoSuchElementException e) {
            return "";
        }
    }

    private static void maps(String circuit, String depths, String blocks) {
        Latticefit x = of(circuit);
        int count = x.map();
        int nodes = 0;
        for (String part : circuit.split(" ")) {
            nodes += part.charAt(0) == '>' || part.charAt(0) == 'f' ? 0 : 1;
        }
        due("the depths of " + circuit, depthsOf(x, nodes), depths);
        due("the blocks of " + circuit, blocksOf(x, count), blocks);
    }

    public static void main(String[] args) {
        nodesAndOutputs();
        registersFeedThemselves();
        numbersAmongInputs();
        cutsOfSources();
        cutsOfFourNodes();
        cutsOfNot();
        cutsEachOnce();
        cutsOfOneNodeTwice();
        depthsOfCandidates();
        fewerNodes();
        lesserSums();
        sixBest();
        itselfAlone();
        neededGates();
        tablesOfWords();
        tablesOfConstants();
        registersWithGates();
        registersThatPassOn();
        gatesWithoutBlocks();
        cellsAtFirst();
        fewerBlocksThanBefore();
        crossingsOfCells();
        crossingsOfInputsAndOutputs();
        nodesWithoutNets();
        lengths();
        clocksOfARegion();
        regions();
        twoRegions();
        chance();
        swapsOfNothing();
        swapsOfFixed();
        swapsWithinTheHeat();
        swapsWithExcess();
        heatDecreases();
        heatStaysAtOne();
        System.out.println(asked - wrong + " of " + asked + " answers are as due");
        if (wrong != 0) {
            System.exit(1);
        }
    }

    // ---- circuit

    private static void nodesAndOutputs() {
        says("There are at most 48 nodes, numbered from 0");
        Latticefit x = new Latticefit();
        for (int i = 0; i < 48; i++) {
            int node = i;
            if (i < 6) {
                answers("addInput()", node, x::addInput);
            } else if (i < 14) {
                answers("addRegister()", node, () -> x.addRegister(true, node % 3));
            } else {
                answers("addGate()", node, () -> x.addGate('x', node - 1, node - 14));
            }
        }
        answers("addInput() at 48", STATE, x::addInput);
        answers("addRegister() at 48", STATE, () -> x.addRegister(false, 0));
        answers("addGate() at 48", STATE, () -> x.addGate('x', 46, 47));
        says("At most 6 outputs are numbered from 0; each one tells a node");
        for (int i = 0; i < 6; i++) {
            int output = i;
            answers("addOutput()", output, () -> x.addOutput(47 - output));
        }
        answers("addOutput() at 6", STATE, () -> x.addOutput(47));
        says("An input, at most 6 of them, a register, at most 8 of them");
        Latticefit y = of("i r0 i r0 i r0 i r0 i r0 i r0 r0 r0");
        answers("the input 6", STATE, y::addInput);
        answers("the register 8", STATE, () -> y.addRegister(false, 0));
        answers("a gate beside them", 14, () -> y.addGate('n', 13, 0));
    }

    private static void registersFeedThemselves() {
        says("a node that feeds it, which is itself at first");
        Latticefit x = started("i R0 r1 >1 >2");
        for (int clock = 0; clock < 3; clock++) {
            x.tick(clock);
        }
        answers("circuitOutput(0), the one kept", true, () -> x.circuitOutput(0));
        answers("chipOutput(0), the one kept", true, () -> x.chipOutput(0));
        answers("circuitOutput(1), the zero kept", false, () -> x.circuitOutput(1));
        answers("chipOutput(1), the zero kept", false, () -> x.chipOutput(1));
        answers("inputOf(0, 0)", 1, () -> x.inputOf(0, 0));
        answers("inputOf(1, 0)", 2, () -> x.inputOf(1, 0));
        answers("feed(1, 0)", 1, () -> x.feed(1, 0));
        answers("feed(2, 1)", 2, () -> x.feed(2, 1));
        answers("feed(2, 2)", 1, () -> x.feed(2, 2));
        says("a register may be fed by any node, also by one with a greater number");
        Latticefit y = started("r0 i n1 f0,2 >0");
        y.tick(0);
        answers("chipOutput(0), not of false", true, () -> y.chipOutput(0));
    }

    private static void numbersAmongInputs() {
        says("Inputs among themselves are numbered from 0, too");
        Latticefit x = started("r0 i n0 i r0 i >1 >3 >5");
        x.setInput(1, true);
        String[] due = {"010", "011", "001"};
        for (int step = 0; step < 3; step++) {
            if (step > 0) {
                x.setInput(3 - step, step == 1);
            }
            for (int output = 0; output < 3; output++) {
                int at = output;
                boolean isOne = due[step].charAt(output) == '1';
                answers("circuitOutput(" + at + ")", isOne, () -> x.circuitOutput(at));
                answers("chipOutput(" + at + ")", isOne, () -> x.chipOutput(at));
            }
        }
        answers("setInput(3, true), a node that is an input", INDEX, () -> x.setInput(3, true));
    }

    // ---- cuts

    private static void cutsOfSources() {
        says("An input and a register have one cut, of themselves alone");
        // The gate 4 stops at the register 3, and does not see what feeds it.
        maps("i i a0,1 r0 n3 f3,2 >4", "001.01.", "r3 g2 34952:0,1 g4 21845:3");
        maps("i n0 >0", "01", "");
    }

    private static void cutsOfFourNodes() {
        says("without those of more than 4 nodes");
        maps("i i i i a0,1 a2,3 a4,5 >6", "0000111.", "g6 32768:0,1,2,3");
        // {0, 1, 2, 3, 4} has 5 nodes; {4, 7} has the depth 2.
        maps("i i i i i a0,1 a2,3 a5,6 a7,4 >8", "00000111.2.",
                "g7 32768:0,1,2,3 g8 34952:4,7");
        // Six times an input, but four different ones.
        maps("i i i i a0,1 a1,2 a2,3 o4,5 a7,6 >8", "000011111.", "g8 49152:0,1,2,3");
    }

    private static void cutsOfNot() {
        says("for 'n' the cuts of its input");
        maps("i i a0,1 n2 >3", "0011.", "g3 30583:0,1");
        maps("i i i i a0,1 a2,3 a4,5 n6 >7", "00001111.", "g7 32767:0,1,2,3");
        // Found by searching: with unions of two cuts of its input the gate 7 would have a table.
        maps("i i i i i i x4,1 o5,6 o6,3 o7,3 o9,9 x10,10 a11,0 n12 x13,7 a13,6 x14,6 o14,16 "
                + "o17,3 a18,16 n19 >20", "0000001.11111222222222.",
                "g6 26214:1,4 g20 240:0,3,5,6");
    }

    private static void cutsEachOnce() {
        says("each one once");
        // Found by searching: if a candidate counted twice, the gate 8 would have a table.
        maps("i i i i i i a3,5 a4,5 o4,1 a6,8 n9 o10,4 x11,6 o11,8 x10,10 x14,8 a12,2 o13,16 "
                + "o17,14 >18", "0000001.111111111222.", "g6 34952:3,5 g18 65535:1,2,4,6");
    }

    private static void cutsOfOneNodeTwice() {
        says("the unions of a cut of its first and one of its second input, also of one node");
        maps("i i a0,1 o2,2 >3", "0011.", "g3 34952:0,1");
        // Found by searching: if a gate with one node as both inputs had the cuts of this node
        // alone, the gates 9 and 10 would have no tables.
        maps("i i i i i i x4,1 o6,6 a7,2 a8,5 a9,8 o9,0 x10,7 n12 o13,13 o13,10 a14,11 x15,16 "
                + "o17,17 x18,0 >19", "0000001.111.1.211112222.",
                "g6 26214:1,4 g9 18432:1,2,4,5 g10 18432:1,2,4,5 g19 40363:0,6,9,10");
    }

    private static void depthsOfCandidates() {
        says("The better one of two candidates is the one with the lower depth");
        // {2} has one node and the depth 2, {0, 1} two nodes and the depth 1.
        maps("i i a1,0 x2,2 >3", "0011.", "g3 0:0,1");
        says("1 plus the greatest depth of its nodes; the least depth of its candidates");
        maps("i i i i i a0,1 a5,2 a6,3 a7,4 a8,0 >9", "00000111.22.",
                "g7 32768:0,1,2,3 g9 32896:0,4,7");
    }

    private static void fewerNodes() {
        says("then the one with fewer nodes");
        // Found by searching: {3, 7} against sets of more nodes, and {5, 7} too.
        maps("i i i i i o2,4 o1,0 x5,6 x7,3 >8", "00000111.2.",
                "g7 4382:0,1,2,4 g8 26214:3,7");
        maps("i i i i i x0,1 x3,2 o4,6 a5,7 >8", "000001.11.2.",
                "g5 26214:0,1 g7 63222:2,3,4 g8 34952:5,7");
    }

    private static void lesserSums() {
        says("then the one for which the sum of 2 to the power of each of its nodes is less");
        // {3, n, n + 1} and {3, n + 1, n + 2} have the same depth and as many nodes; from n = 30 on
        // the sums are beyond 31 bits.
        for (int n : new int[] {5, 29, 30, 31, 32, 43}) {
            String gates = " o1,0 a2,4 a" + (n + 1) + "," + n + " x" + (n + 2) + ",3 a" + (n + 3)
                    + "," + (n + 1);
            maps("i i i i i" + " n0".repeat(n - 5) + gates + " >" + (n + 4),
                    "00000" + "1".repeat(n - 5) + "1.1.122.",
                    "g" + n + " 61166:0,1 g" + (n + 1) + " 34952:2,4 g" + (n + 4) + " 24672:3,"
                            + n + "," + (n + 1));
        }
    }

    private static void sixBest() {
        says("The cuts of a gate are its 6 best candidates");
        // Found by searching: with 5 of them, the gate 10 would have a table.
        maps("i i i i i x2,4 o1,1 a6,5 a3,6 a5,0 a9,0 a7,8 o8,10 a11,12 o13,6 >14",
                "000001.111111222.", "g5 26214:2,4 g14 52428:0,1,3,5");
        // Found by searching: with 7 of them, the gate 6 would have none.
        maps("i i i i i i o4,3 o6,0 x5,1 x6,7 o9,7 x8,9 n10 x11,4 o12,13 >14",
                "0000001.11.112122.", "g6 61166:3,4 g8 26214:1,5 g14 15815:0,4,6,8");
        says("or all if there are fewer");
        maps("i n0 n1 >2", "011.", "g2 43690:0");
    }

    private static void itselfAlone() {
        says("and the set of itself alone");
        // Found by searching: without them, the gate 8 would have 2, 4 and 7 as inputs.
        maps("i i i i i o2,4 a3,1 o6,0 a5,7 >8", "000001.11.2.",
                "g5 61166:2,4 g7 60138:0,1,3 g8 34952:5,7");
    }

    // ---- tables

    private static void neededGates() {
        says("Gates are needed that are told by an output");
        maps("i n0 >1", "01.", "g1 21845:0");
        maps("i n0 >0", "01", "");
        maps("i n0 >1 >1 >1", "01.", "g1 21845:0");
        says("or feed a register");
        maps("i n0 r0 f2,1 >0", "01.0", "r2 g1 21845:0");
        maps("i n0 r0 f2,1 f2,0 >0", "010", "r2 43690:0");
        says("or belong to the own cut of a needed gate");
        maps("i i i i i a0,1 a2,3 a5,6 a7,4 >8", "00000111.2.",
                "g7 32768:0,1,2,3 g8 34952:4,7");
        maps("i i i i i a0,1 a2,3 a5,6 a7,4 >7", "00000111.2", "g7 32768:0,1,2,3");
        maps("i i i i i a0,1 a2,3 a5,6 a7,4 >0", "000001112", "");
    }

    private static void tablesOfWords() {
        says("The table is a word whose bit k, for k from 0 to 15, is the value of the gate");
        for (int k = 0; k < 16; k++) {
            int[] at = new int[4];
            for (int j = 0; j < 4; j++) {
                at[j] = (k >> j & 1) == 1 ? j : 4 + j;
            }
            maps("i i i i n0 n1 n2 n3 a" + at[0] + "," + at[1] + " a" + at[2] + "," + at[3]
                    + " a8,9 >10", "00001111111.", "g10 " + (1 << k) + ":0,1,2,3");
        }
        says("whose inputs are the nodes of its own cut by rising numbers");
        maps("i i i i n0 a4,3 >5", "000011.", "g5 17476:0,3");
        maps("i i i i n0 a3,4 >5", "000011.", "g5 17476:0,3");
        maps("i i i i n3 a4,0 >5", "000011.", "g5 8738:0,3");
        says("the bits of k behind the last input do not matter");
        maps("i i a0,1 >2", "001.", "g2 34952:0,1");
        maps("i i o0,1 >2", "001.", "g2 61166:0,1");
        maps("i i x0,1 >2", "001.", "g2 26214:0,1");
        maps("i n0 >1", "01.", "g1 21845:0");
        maps("i i i a0,1 a3,2 >4", "00011.", "g4 32896:0,1,2");
    }

    private static void tablesOfConstants() {
        says("The table is a word, from 0 to 65535");
        maps("i x0,0 n1 >1 >2", "01.1.", "g1 0:0 g2 65535:0");
        Latticefit x = started("i x0,0 n1 >1 >2");
        for (boolean value : new boolean[] {false, true}) {
            x.setInput(0, value);
            answers("circuitOutput(0), no row", false, () -> x.circuitOutput(0));
            answers("chipOutput(0), no row", false, () -> x.chipOutput(0));
            answers("circuitOutput(1), all rows", true, () -> x.circuitOutput(1));
            answers("chipOutput(1), all rows", true, () -> x.chipOutput(1));
        }
        answers("wordAt(0, 0)", 0, () -> x.wordAt(0, 0));
        answers("wordAt(0, 6)", 65535, () -> x.wordAt(0, 6));
    }

    // ---- blocks

    private static void registersWithGates() {
        says("Each register, by rising numbers, gets a block; a gate with no block yet, too");
        maps("i n0 r0 r0 f2,1 f3,1 >1", "01.00", "r2 g1 21845:0 r3 43690:1");
        maps("i n0 r0 r0 f3,1 f2,1 >1", "01.00", "r2 g1 21845:0 r3 43690:1");
        maps("r0 i n1 r0 f3,2 >0", "001.0", "r0 43690:0 r3 g2 21845:1");
        maps("r0 i n1 f0,2 >0", "001.", "r0 g2 21845:1");
    }

    private static void registersThatPassOn() {
        says("otherwise, the block passes on: this node as its only input, and the word 43690");
        maps("i r0 r0 r0 f2,0 f3,1 >0", "0000", "r1 43690:1 r2 43690:0 r3 43690:1");
        maps("r0 r0 n0 f0,1 f1,2 >0", "001.", "r0 43690:1 r1 g2 21845:0");
    }

    private static void gatesWithoutBlocks() {
        says("Then each needed gate without a block gets one, by rising numbers");
        maps("i n0 r0 n2 x1,3 f2,4 >3 >1", "01.01.1.",
                "r2 g4 26214:0,2 g1 21845:0 g3 21845:2");
        says("Blocks are numbered in this order from 0, up to 36 of them");
        Latticefit x = of(CROWD + " >0");
        answers("map() of 37 blocks", UNSUPPORTED, x::map);
        x.feed(0, 0);
        answers("map() of 36 blocks", 36, x::map);
        for (int block = 0; block < 36; block++) {
            int at = block;
            answers("registerOf(" + block + ")", block < 8 ? at : NoSuchElementException.class,
                    () -> x.registerOf(at));
        }
    }

    private static void cellsAtFirst() {
        says("At first, the block with a number is in the cell with this number");
        Latticefit x = mapped(CROWD + " >0 f0,0");
        for (int block = 0; block < 36; block++) {
            int at = block;
            answers("cellOf(" + block + ")", at, () -> x.cellOf(at));
        }
        answers("fix(35, 0)", true, () -> x.fix(35, 0) > 0);
        answers("cellOf(0)", 35, () -> x.cellOf(0));
        answers("cellOf(35)", 0, () -> x.cellOf(35));
        answers("map() anew", 36, x::map);
        answers("cellOf(0)", 0, () -> x.cellOf(0));
        answers("cellOf(35)", 35, () -> x.cellOf(35));
        says("and places its blocks anew; none is fixed then");
        answers("fix(35, 35)", true, () -> x.fix(35, 35) > 0);
        answers("fix(0, 35)", UNSUPPORTED, () -> x.fix(0, 35));
    }

    private static void fewerBlocksThanBefore() {
        says("Maps the circuit, and places its blocks anew, also if there are fewer of them");
        String circuit = "i i i i i a0,1 a2,3 a5,6 a7,4 r0 f9,8 >0";
        Latticefit x = of(circuit);
        answers("map() with a gate in the cut of the register's", 2, x::map);
        answers("cost()", 7 + 0 + 1 + 2 + 4 + 1, x::cost);
        x.feed(9, 9);
        answers("map() without gates", 1, x::map);
        Latticefit y = mapped(circuit + " f9,9");
        answers("cost()", 6, x::cost);
        answers("cost() as at once", 6, y::cost);
        answers("word(1)", INDEX, () -> x.word(1));
        answers("fix(1, 0)", INDEX, () -> x.fix(1, 0));
        answers("isNeeded(7)", false, () -> x.isNeeded(7));
        answers("isNeeded(8)", false, () -> x.isNeeded(8));
        answers("anneal() of 1 and 35, both empty", 0, () -> swap(x, 1, 35, 50));
        answers("route(20)", 1, () -> x.route(20));
        y.route(20);
        for (int edge = 0; edge < 84; edge++) {
            int at = edge;
            answers("netsOn(" + edge + ")", y.netsOn(edge), () -> x.netsOn(at));
        }
        answers("timeOf(7)", NoSuchElementException.class, () -> x.timeOf(7));
        answers("slowest()", 6, x::slowest);
        answers("build()", y.build(), x::build);
    }

    // ---- crossings and nets

    private static void crossingsOfCells() {
        says("A block is at the crossing with the column and the row of its cell");
        for (int cell = 0; cell < 36; cell++) {
            int at = cell;
            int column = cell / 6;
            int row = cell % 6;
            int fromFirst = column + row;
            int fromSecond = column + Math.abs(row - 1);
            int toOutput = 6 - column + row;
            answers("cost() in cell " + cell, fromFirst + fromSecond + toOutput,
                    () -> mapped("i i x0,1 >2").fix(0, at));
        }
    }

    private static void crossingsOfInputsAndOutputs() {
        for (int row = 0; row < 6; row++) {
            says("the input with the number i at that with the column 0 and the row i");
            answers("cost() of the input " + row + " told by the output 0", 6 + row,
                    mapped("i i i i i i >" + row)::cost);
            says("an output j at that with the column 6 and the row j");
            answers("cost() of the input 0 told by all outputs up to " + row, 6 + row,
                    mapped("i" + " >0".repeat(row + 1))::cost);
        }
        answers("cost() of six inputs told by six outputs, turned round", 36 + 2 * (5 + 3 + 1),
                mapped("i i i i i i >5 >4 >3 >2 >1 >0")::cost);
    }

    private static void nodesWithoutNets() {
        says("Each node that is an input of the table of a block, or told by an output, has a net");
        answers("cost() of an input, told", 6, mapped("i i n0 >0")::cost);
        answers("cost() of a gate, told", 6 + 7, mapped("i i n0 >0 >2")::cost);
        answers("cost() of a register and its gate, not told", 6, mapped("i r0 n0 f1,2 >0")::cost);
        answers("cost() of the register, told", 6 + 7, mapped("i r0 n0 f1,2 >0 >1")::cost);
        answers("cost() of the gate, told", 6 + 7 + 8, mapped("i r0 n0 f1,2 >0 >1 >2")::cost);
        answers("cost() of the gate, in another table", 6 + 1,
                mapped("i r0 r0 n0 f1,3 f2,3 >0")::cost);
    }

    private static void lengths() {
        says("the difference of the greatest and the least column of its source and sinks");
        // The register 0 feeds both registers; the output 0 is at column 6, row 0.
        Latticefit beyond = mapped("r0 r0 f1,0 >0");
        beyond.fix(0, 15);
        answers("fix(1, 5), beyond the source", 6 + 5, () -> beyond.fix(1, 5));
        Latticefit above = mapped("r0 r0 f1,0 >0");
        above.fix(0, 15);
        answers("fix(1, 22), one row above", 4 + 4, () -> above.fix(1, 22));
        Latticefit within = mapped("r0 r0 f1,0 >0");
        within.fix(0, 15);
        answers("fix(1, 25), within", 4 + 3, () -> within.fix(1, 25));
        Latticefit left = mapped("r0 r0 f1,0 >0");
        left.fix(0, 15);
        answers("fix(1, 9), one column to the left", 5 + 3, () -> left.fix(1, 9));
        says("the sum of the lengths of all nets, those with the length 0 too");
        answers("cost() with a register that has itself alone", 6, mapped("r0 r0 >0")::cost);
    }

    // ---- clocks

    private static void clocksOfARegion() {
        says("the number of different clocks of the registers in its cells beyond 2, or 0");
        answers("excess() of no register", 0, mapped("i n0 >1")::excess);
        answers("excess() of one clock", 0, mapped("r1 r1 r1 >0")::excess);
        answers("excess() of two clocks", 0, mapped("r1 r2 r1 r2 >0")::excess);
        answers("excess() of three clocks", 1, mapped("r1 r2 r0 >0")::excess);
        answers("excess() of eight registers", 1,
                mapped("r0 r1 r2 r0 r1 r2 r0 r1 >0")::excess);
    }

    private static void regions() {
        says("There are three regions, of the columns 0 and 1, 2 and 3, and 4 and 5");
        int[][] due = {
            {0, 1, 11, 1}, {0, 1, 12, 0}, {0, 1, 35, 0}, {12, 13, 11, 0}, {12, 13, 14, 1},
            {12, 13, 23, 1}, {12, 13, 24, 0}, {24, 25, 23, 0}, {24, 25, 26, 1}, {24, 25, 35, 1},
            {24, 25, 0, 0}, {11, 12, 23, 0}, {23, 24, 12, 0}};
        for (int[] cells : due) {
            Latticefit x = mapped("r0 r1 r2 >0");
            for (int block = 0; block < 3; block++) {
                x.fix(block, cells[block]);
            }
            answers("excess() in " + cells[0] + ", " + cells[1] + ", " + cells[2], cells[3],
                    x::excess);
        }
    }

    private static void twoRegions() {
        says("The excess is that of all regions together");
        Latticefit x = mapped("r0 r1 r2 r0 r1 r2 >0");
        answers("excess() in one region", 1, x::excess);
        x.fix(3, 12);
        x.fix(4, 13);
        answers("excess() with two apart", 1, x::excess);
        x.fix(5, 14);
        answers("excess() in two regions", 2, x::excess);
        x.fix(2, 35);
        answers("excess() with one more apart", 1, x::excess);
    }

    // ---- swaps

    private static long nextChance(long chance) {
        return (chance * 1103515245L + 12345L) & 0x7fffffffL;
    }

    private static int told(long chance) {
        return (int) ((chance >> 16) % 36);
    }

    /** A seed whose steps up to a last one tell other cells, and the last one these two. */
    private static int seedFor(int steps, int one, int other) {
        for (int seed = 0; seed < 100_000_000; seed++) {
            long chance = seed;
            boolean isFit = true;
            for (int step = 1; step <= steps && isFit; step++) {
                chance = nextChance(chance);
                int first = told(chance);
                chance = nextChance(chance);
                int second = told(chance);
                isFit = step == steps ? first == one && second == other
                        : first != one && second != one;
            }
            if (isFit) {
                return seed;
            }
        }
        throw new AssertionError("no seed tells " + one + " and " + other);
    }

    private static int swap(Latticefit x, int one, int other, int heat) {
        return x.anneal(seedFor(1, one, other), 1, heat);
    }

    /** One gate 'n' from the input 0 to the output 0: the cost is 6 and twice the row. */
    private static Latticefit lone() {
        return mapped("i n0 >1");
    }

    private static void chance() {
        says("times 1103515245, plus 12345, modulo 2147483648; its quotient by 65536, modulo 36");
        int[] heats = {1, 2, 3, 11, 50};
        int[] steps = {1, 2, 7, 8, 9, 16, 17, 200};
        for (int i = 0; i < 60; i++) {
            int seed = i < 30 ? i : MAX - (i - 30);
            for (int heat : heats) {
                for (int count : steps) {
                    Latticefit x = lone();
                    int[] want = annealed(seed, count, heat);
                    String call = "anneal(" + seed + ", " + count + ", " + heat + ")";
                    answers(call, want[0], () -> x.anneal(seed, count, heat));
                    answers("cellOf(0) behind " + call, want[1], () -> x.cellOf(0));
                }
            }
        }
    }

    /** The number of swaps, and the cell of the one block. */
    private static int[] annealed(int seed, int steps, int heat) {
        long chance = seed;
        int cell = 0;
        int swaps = 0;
        for (int step = 0; step < steps; step++) {
            chance = nextChance(chance);
            int one = told(chance);
            chance = nextChance(chance);
            int other = told(chance);
            if (one == other || (one != cell && other != cell)) {
                continue;
            }
            int to = one + other - cell;
            if (2 * (to % 6 - cell % 6) < Math.max(1, heat - step / 8)) {
                cell = to;
                swaps++;
            }
        }
        return new int[] {swaps, cell};
    }

    private static void swapsOfNothing() {
        says("Nothing is done if they are the same");
        Latticefit x = lone();
        answers("anneal() of 0 and 0", 0, () -> swap(x, 0, 0, 50));
        answers("cellOf(0)", 0, () -> x.cellOf(0));
        says("or none of them has a block");
        answers("anneal() of 1 and 35", 0, () -> swap(x, 1, 35, 50));
        answers("anneal() of 0 and 35", 1, () -> swap(x, 0, 35, 50));
        answers("cellOf(0)", 35, () -> x.cellOf(0));
        answers("anneal() of 0 and 1", 0, () -> swap(x, 0, 1, 50));
        answers("anneal() of 0 and 35, the block in the second", 1, () -> swap(x, 0, 35, 50));
        answers("cellOf(0)", 0, () -> x.cellOf(0));
        says("A swap exchanges what is in two cells");
        Latticefit y = mapped("r0 r0 r0 >0");
        answers("anneal() of 0 and 2", 1, () -> swap(y, 0, 2, 50));
        answers("cellOf(0)", 2, () -> y.cellOf(0));
        answers("cellOf(1)", 1, () -> y.cellOf(1));
        answers("cellOf(2)", 0, () -> y.cellOf(2));
    }

    private static void swapsOfFixed() {
        says("or one of them has a fixed block");
        Latticefit x = mapped("r0 r0 r0 >0");
        x.fix(1, 1);
        answers("anneal() of 1 and 9, fixed in the first", 0, () -> swap(x, 1, 9, 50));
        answers("anneal() of 9 and 1, fixed in the second", 0, () -> swap(x, 9, 1, 50));
        answers("anneal() of 1 and 2, beside a block", 0, () -> swap(x, 1, 2, 50));
        answers("anneal() of 0 and 1, beside a block", 0, () -> swap(x, 0, 1, 50));
        answers("anneal() of 0 and 2, without it", 1, () -> swap(x, 0, 2, 50));
        answers("cellOf(1)", 1, () -> x.cellOf(1));
        x.map();
        answers("anneal() of 1 and 9, mapped anew", 1, () -> swap(x, 1, 9, 50));
    }

    private static void swapsWithinTheHeat() {
        says("and the cost becomes greater by less than the heat");
        for (int cell = 1; cell < 36; cell++) {
            int to = cell;
            int dearer = 2 * (cell % 6);
            answers("anneal() of 0 and " + cell + " with the heat " + (dearer + 1), 1,
                    () -> swap(lone(), 0, to, dearer + 1));
            if (dearer > 0) {
                answers("anneal() of 0 and " + cell + " with the heat " + dearer, 0,
                        () -> swap(lone(), 0, to, dearer));
            }
        }
        Latticefit x = lone();
        answers("anneal() to the row 5", 1, () -> swap(x, 0, 5, 11));
        answers("cost()", 16, x::cost);
        answers("anneal() back, cheaper, with the heat 1", 1, () -> swap(x, 5, 0, 1));
        answers("cost()", 6, x::cost);
    }

    private static void swapsWithExcess() {
        says("if the excess does not become greater");
        // The blocks 1 and 2 have themselves alone as inputs: where they are costs nothing.
        Latticefit x = mapped("r0 r1 r2 >0");
        answers("anneal() of 2 and 11, the excess stays 1", 1, () -> swap(x, 2, 11, 1));
        answers("excess()", 1, x::excess);
        answers("anneal() of 11 and 12, it becomes 0", 1, () -> swap(x, 11, 12, 1));
        answers("excess()", 0, x::excess);
        answers("anneal() of 12 and 11, it would become 1", 0, () -> swap(x, 12, 11, 50));
        answers("cellOf(2)", 12, () -> x.cellOf(2));
        answers("anneal() of 12 and 23, it stays 0", 1, () -> swap(x, 12, 23, 1));
        answers("anneal() of 23 and 1, of two blocks, it stays 0", 1, () -> swap(x, 23, 1, 1));
        answers("cellOf(1)", 23, () -> x.cellOf(1));
        Latticefit y = mapped("r0 r1 r2 >0");
        y.fix(1, 24);
        y.fix(2, 25);
        answers("cost()", 6, y::cost);
        answers("anneal() of 0 and 30, cheaper, but the excess greater", 0,
                () -> swap(y, 0, 30, 50));
        answers("anneal() of 0 and 18, cheaper", 1, () -> swap(y, 0, 18, 1));
        answers("cost()", 3, y::cost);
    }

    private static void heatDecreases() {
        says("Behind each 8 steps, the heat decreases by 1");
        // To the row 1 the cost becomes greater by 2: the heat must still be 3.
        int[][] due = {{1, 3, 1}, {1, 2, 0}, {8, 3, 1}, {8, 2, 0}, {9, 4, 1}, {9, 3, 0},
            {16, 4, 1}, {16, 3, 0}, {17, 5, 1}, {17, 4, 0}, {24, 5, 1}, {25, 5, 0}, {25, 6, 1}};
        for (int[] at : due) {
            int seed = seedFor(at[0], 0, 1);
            answers("anneal(" + seed + ", " + at[0] + ", " + at[1] + ")", at[2],
                    () -> lone().anneal(seed, at[0], at[1]));
        }
    }

    private static void heatStaysAtOne() {
        says("down to 1");
        // To another column the cost stays the same: that is less than 1 greater, but not than 0.
        for (int steps : new int[] {1, 8, 9, 16, 17, 25, 33}) {
            int seed = seedFor(steps, 0, 30);
            for (int heat = 1; heat <= 3; heat++) {
                int warm = heat;
                answers("anneal(" + seed + ", " + steps + ", " + heat + ")", 1,
                        () -> lone().anneal(seed, steps, warm));
            }
        }
        // In cell 1 the cost is 8 for 7: the heat must still be 2.
        int[][] due = {{1, 1, 0}, {1, 2, 1}, {8, 1, 0}, {8, 2, 1}, {9, 1, 0}, {9, 2, 0},
            {9, 3, 1}, {16, 2, 0}, {16, 3, 1}, {17, 1, 0}, {17, 2, 0}, {17, 3, 0}, {17, 4, 1}};
        for (int[] at : due) {
            int seed = seedFor(at[0], 0, 1);
            answers("anneal(" + seed + ", " + at[0] + ", " + at[1] + ") to one more", at[2],
                    () -> mapped("i i x0,1 >2").anneal(seed, at[0], at[1]));
        }
    }
}
