import java.util.NoSuchElementException;

/**
 * The sentences of 'Terms' from routing on: routing, wires, times, bitstream, chip and running,
 * each with the case just inside its boundary and the one just outside. The circuits of the words
 * 'found by searching' are those with the fewest calls on which a wrong reading of the sentence
 * gives other routes; what is due there was told by a second writing of the document, too.
 */
public final class BoundariesOfWires {
    private static final Class<?> INDEX = IndexOutOfBoundsException.class;
    private static final Class<?> STATE = IllegalStateException.class;
    private static final Class<?> NONE = NoSuchElementException.class;
    private static final int[] FRAME_LENGTHS = {
        36, 36, 36, 36, 36, 36, 26, 26, 26, 26, 26, 26, 12, 6};

    // Nets of the corner of crossing 0 that take 20 rounds, and 19 (found by searching).
    private static final String TWENTY = "i i i i x1,3 x3,2 >1 >4 >0 >5";
    private static final String NINETEEN = "i i i i o3,2 a3,0 >5 >1 >0 >4";

    private static String sentence;
    private static int asked;
    private static int wrong;

    private interface Call {
        Object of();
    }

    private static void says(String words) {
        sentence = words;
    }

    private static void due(String call, Object got, Object want) {
        asked++;
        if (!want.equals(got)) {
            wrong++;
            System.out.println("[" + sentence + "] " + call + " answered " + got + ", due is "
                    + want);
        }
    }

    private static void answers(String call, Object want, Call of) {
        Object got;
        try {
            got = of.of();
        } catch (RuntimeException e) {
            got = e.getClass();
        }
        due(call, got, want);
    }

    // ---- circuits: i (input), r and R (register, zero or one at first, with its clock), gates
    // with their inputs, f (feed), > (output)

    private static Latticefit of(String circuit) {
        Latticefit x = new Latticefit();
        for (String part : circuit.split(" ")) {
            put(x, part.charAt(0), part.substring(1).split(","));
        }
        return x;
    }

    private static void put(Latticefit x, char what, String[] numbers) {
        int one = numbers[0].isEmpty() ? 0 : Integer.parseInt(numbers[0]);
        int other = numbers.length < 2 ? 0 : Integer.parseInt(numbers[1]);
        switch (what) {
            case 'i' -> x.addInput();
            case 'r' -> x.addRegister(false, one);
            case 'R' -> x.addRegister(true, one);
            case 'f' -> x.feed(one, other);
            case '>' -> x.addOutput(one);
            default -> x.addGate(what, one, other);
        }
    }

    private static Latticefit mapped(String circuit) {
        Latticefit x = of(circuit);
        x.map();
        return x;
    }

    private static Latticefit started(String circuit) {
        Latticefit x = mapped(circuit);
        x.route(20);
        x.build();
        x.start();
        return x;
    }

    private static Latticefit built(String circuit) {
        Latticefit x = mapped(circuit);
        x.route(20);
        x.build();
        return x;
    }

    /** How many nets have each edge: those between columns, and those between rows. */
    private static String netsOf(Latticefit x) {
        StringBuilder nets = new StringBuilder();
        for (int edge = 0; edge < 84; edge++) {
            nets.append(edge == 42 ? " " : "").append(x.netsOn(edge));
        }
        return nets.toString();
    }

    private static void routes(String circuit, int rounds, String nets) {
        Latticefit x = mapped(circuit);
        answers("route(20) of " + circuit, rounds, () -> x.route(20));
        answers("isRouted() of " + circuit, true, x::isRouted);
        answers("the nets of " + circuit, nets, () -> netsOf(x));
    }

    private static void routesFixed(String circuit, int block, int cell, int rounds, String nets) {
        Latticefit x = mapped(circuit);
        x.fix(block, cell);
        answers("route(20) of " + circuit, rounds, () -> x.route(20));
        answers("isRouted() of " + circuit, true, x::isRouted);
        answers("the nets of " + circuit, nets, () -> netsOf(x));
    }

    /** Flips what differs between two words. */
    private static int flipTo(Latticefit x, int frame, int index, int from, int to) {
        int flips = 0;
        for (int bit = 0; bit < 16; bit++) {
            if (((from ^ to) >> bit & 1) == 1) {
                x.flip(frame, index, bit);
                flips++;
            }
        }
        return flips;
    }

    private static int frameOfEdge(int edge) {
        return edge < 42 ? 6 + edge / 7 : 6 + (edge - 42) / 6;
    }

    private static int indexOfEdge(int edge) {
        if (edge < 42) {
            return 2 * (edge % 7);
        }
        return 2 * ((edge - 42) % 6) + (edge < 78 ? 14 : 0);
    }

    public static void main(String[] args) {
        roundsAllowed();
        roundsThatStart();
        routesAfterMoves();
        netsInTurn();
        sinksInTurn();
        tollsOfRounds();
        tollsOfNets();
        tollsOfPrices();
        cheapestWays();
        pricesBehindRounds();
        twoNets();
        lastEdges();
        wiresOfNets();
        timesOfGates();
        timesOfRegisters();
        slowestOutputs();
        framesOfCells();
        framesOfCrossings();
        frameOfOutputs();
        wordsOfRegisters();
        lastWires();
        checks();
        chipsOwnFrames();
        codesOfCells();
        codesOfInputs();
        codesOfWires();
        longWays();
        ringsOfWires();
        fortyTimes();
        allTablesSwing();
        rowsOfTables();
        registersThatTake();
        startsOfRegisters();
        inputsOfBoth();
        ticksAtOnce();
        scrubbedRegisters();
        System.out.println(asked - wrong + " of " + asked + " answers are as due");
        if (wrong != 0) {
            System.exit(1);
        }
    }

    // ---- routing

    private static void roundsAllowed() {
        says("Rounds end when there is no such edge, or when as many are made as are allowed");
        roundsOf(TWENTY, 20);
        roundsOf(NINETEEN, 19);
        // Found by searching: 8 rounds.
        roundsOf("r0 r0 r0 a1,2 f0,3 f1,0 f2,3 >1 >0", 8);
        roundsOf("i i i x1,2 >1 >3 >0", 2);
        Latticefit x = mapped("i >0");
        answers("route(1), which suffices", 1, () -> x.route(1));
        answers("isRouted()", true, x::isRouted);
        answers("route(20), which ends with the first one", 1, () -> x.route(20));
    }

    /** A circuit takes so many rounds: one less is no success, and more are not made. */
    private static void roundsOf(String circuit, int rounds) {
        Latticefit x = mapped(circuit);
        answers("route(" + (rounds - 1) + ") of " + circuit, rounds - 1,
                () -> x.route(rounds - 1));
        answers("isRouted()", false, x::isRouted);
        answers("an edge with 3 nets", true, () -> netsOf(x).indexOf('3') >= 0);
        answers("fill()", STATE, x::fill);
        answers("route(" + rounds + ") of " + circuit, rounds, () -> x.route(rounds));
        answers("isRouted()", true, x::isRouted);
        answers("an edge with 3 nets", false, () -> netsOf(x).indexOf('3') >= 0);
        answers("route(20) of " + circuit, rounds, () -> x.route(20));
        answers("isRouted()", true, x::isRouted);
    }

    private static void roundsThatStart() {
        says("At first, no net has edges, and the price of each edge is 0");
        Latticefit x = mapped("i i i x2,1 >1 >0 >3");
        answers("route(17)", 2, () -> x.route(17));
        String nets = "221000002100001110000111000011100001110000 "
                + "220000200000100000000000000000000000000000";
        answers("the nets", nets, () -> netsOf(x));
        answers("route(17) again", 2, () -> x.route(17));
        answers("the nets again", nets, () -> netsOf(x));
        Latticefit y = mapped(TWENTY);
        answers("route(1)", 1, () -> y.route(1));
        answers("isRouted()", false, y::isRouted);
        answers("route(20) behind it", 20, () -> y.route(20));
        answers("route(19) behind it", 19, () -> y.route(19));
        answers("isRouted()", false, y::isRouted);
    }

    private static void routesAfterMoves() {
        says("At first, no net has edges: each call of route() has the sinks of now");
        Latticefit x = mapped("i i r0 n1 f2,3 r0 >1 >2");
        x.fix(0, 35);
        Latticefit y = mapped("i i r0 n1 f2,3 r0 >1 >2");
        answers("route(20) in cell 0", 1, () -> y.route(20));
        y.build();
        y.fix(0, 35);
        x.route(20);
        answers("route(20) in cell 35", 1, () -> y.route(20));
        answers("the nets as at once", netsOf(x), () -> netsOf(y));
        answers("fill() as at once", x.fill(), y::fill);
        answers("slowest() as at once", x.slowest(), y::slowest);
        says("All that is not there is 0, also if there was something before");
        answers("build() as at once", x.build(), y::build);
        for (int frame = 0; frame < 14; frame++) {
            int at = frame;
            answers("check(" + frame + ") as at once", x.check(frame), () -> y.check(at));
        }
        answers("wordAt(0, 0), where the block was", 0, () -> y.wordAt(0, 0));
        answers("wordAt(5, 30), where it is", 21845, () -> y.wordAt(5, 30));
    }

    private static void netsInTurn() {
        says("each net, by rising nodes, gives up its edges, and gets new ones");
        // Found by searching: with the nets by falling nodes, the net 1 would go another way.
        routes("r0 r0 o1,0 >2", 1, "001000010000001000000100000010000001000000 "
                + "120000110000000000000000000000000000000000");
        // Found by searching: if all gave up their edges first, it would take 5 rounds.
        routes("i i i x1,2 >1 >0 >3", 2, "221000002100001110000111000011100001110000 "
                + "220000200000100000000000000000000000000000");
    }

    private static void sinksInTurn() {
        says("for each sink, by rising numbers, a cheapest way from the tree to it is added");
        // To the output 0 along the row 0; to the output 1 from there by the edge 78. By falling
        // numbers it would go by the edge 42 and the row 1, and by the edge 78 to the output 0.
        routes("i >0 >0", 1, "100000010000001000000100000010000001000000 "
                + "000000000000000000000000000000000000100000");
        routes("r0 >0 >0 >0 >0 >0 >0", 1, "100000010000001000000100000010000001000000 "
                + "000000000000000000000000000000000000111110");
        says("for each sink that is not in the tree");
        // The block of the gate 1 is at the source, and needs no edge.
        routes("i n0 >0", 1, "100000010000001000000100000010000001000000 "
                + "000000000000000000000000000000000000000000");
    }

    private static void tollsOfRounds() {
        says("plus 4 times the round");
        // Found by searching: with 3 times, 5 times, and without the round, there are other routes.
        routes("i i r0 o2,0 a1,3 >4 >1 >3", 2, "122200012200001110000111000011100001110000 "
                + "222000222000010000000000000000000000000000");
        routes("r0 r0 r0 a1,1 f0,3 f1,3 >2 >0", 2, "110000011000001100000110000011000001100000 "
                + "210000200000000000000000000000000000000000");
        routes("i r0 r0 x2,0 x1,0 >4 >3 >1", 2, "122200012200001110000111000011100001110000 "
                + "122000222000010000000000000000000000000000");
        says("rounds, numbered from 1");
        // Found by searching: numbered from 0, and from 2.
        routes("i r0 x1,0 >2", 1, "010000010000001000000100000010000001000000 "
                + "200000100000000000000000000000000000000000");
        routesFixed("i i i o0,1 x3,2 >4 >3", 0, 14, 2,
                "120000010200001100000110000011000001100000 "
                + "210000020000010000000000000000000000000000");
    }

    private static void tollsOfNets() {
        says("for each net beyond 2 that would have it, this one included");
        // The third net on the edge 42 would pay 5 for it, and goes by the edges 0 and 48 for 2.
        routes("i r0 a1,0 >2", 1, "010000010000001000000100000010000001000000 "
                + "200000100000000000000000000000000000000000");
        // Found by searching: with the same toll for the fourth one there are other routes.
        routes("i i i i x3,2 x0,1 >1 >5 >4", 2, "221000002100001110000111000011100001110000 "
                + "211000220000100000000000000000000000000000");
    }

    private static void tollsOfPrices() {
        says("The toll of an edge is 1 plus its price");
        // Found by searching: without prices it would never succeed.
        routes("i i i o2,1 >1 >0 >3", 2, "221000002100001110000111000011100001110000 "
                + "220000200000100000000000000000000000000000");
    }

    private static void cheapestWays() {
        says("crossings of the tree have the toll 0, and others none");
        // From the crossing 42, with the toll 0 too, it is 1 to the crossing 43.
        routes("r0 >0 >0", 1, "100000010000001000000100000010000001000000 "
                + "000000000000000000000000000000000000100000");
        says("the one with the least toll, of several the one with the lowest number, is done");
        // The gate's net goes from crossing 1 over 0 along the row 0, not along the row 1.
        routes("r0 o0,0 >1", 1, "100000010000001000000100000010000001000000 "
                + "200000000000000000000000000000000000000000");
        says("if it had none or a greater one");
        // With the same toll, the way over the column before stays.
        routes("r0 x0,0 >1", 1, "100000010000001000000100000010000001000000 "
                + "200000000000000000000000000000000000000000");
        // Found by searching: if the first toll stayed, it would take 2 rounds.
        routes("r0 r0 r0 f0,2 f1,0 >1", 1, "210000010000001000000100000010000001000000 "
                + "210000100000000000000000000000000000000000");
        says("the one with the least toll");
        // Found by searching: if a toll that is just 1 less did not count, it would go otherwise.
        routes("i i r0 x2,0 o0,1 f2,1 >3 >0 >4", 3, "122000011100001110000111000011100001110000 "
                + "220000210000000000000000000000000000000000");
        says("so a way goes between the rows first, and then along the row of its sink");
        routes("i i i i i i >5", 1, "100000010000001000000100000010000001000000 "
                + "111110000000000000000000000000000000000000");
        // From cell 35 to the left, in the column of the sink at last.
        routesFixed("r0 r0 f0,1 f1,0 >0", 1, 35, 1, "100002010000201000020100002010000201000000 "
                + "222220000000000000000000000000000000000000");
    }

    private static void pricesBehindRounds() {
        says("the price of each edge that more than 2 nets have grows by those beyond 2");
        // Found by searching: with prices that grow by 1, by twice as much, by all nets but 1, and
        // that only become the number of those beyond 2.
        routes("i i r0 r0 r0 x1,3 o2,0 f3,4 f4,5 >6 >0 >1", 5,
                "122200012200001110000111000011100001110000 "
                + "121000222000020000000000000000000000000000");
        routesFixed("i r0 r0 a1,2 f1,0 f2,1 >3", 0, 32, 2,
                "021000011100001020000102000010200001000000 "
                + "120000120000010000000000000000000000000000");
        routes("i i i i a3,1 >2 >4", 2, "211000020000001100000110000011000001100000 "
                + "111000210000100000000000000000000000000000");
        routes("r0 r0 r0 a1,2 f0,3 f1,0 f2,3 >1 >0", 8,
                "221000002000001100000110000011000001100000 "
                + "210000210000100000000000000000000000000000");
    }

    private static void twoNets() {
        says("Rounds end when there is no edge that more than 2 nets have");
        // The inputs 0 and 1 share the edge 42.
        Latticefit two = mapped("i i >1 >0");
        answers("route(20) with 2 nets on an edge", 1, () -> two.route(20));
        answers("netsOn(42)", 2, () -> two.netsOn(42));
        // Found by searching: with 3 nets on the edge 42 it would end with the first round.
        Latticefit three = mapped("i i i i x3,1 >2 >4");
        answers("route(1) with 3 nets on an edge", 1, () -> three.route(1));
        answers("isRouted()", false, three::isRouted);
        answers("the nets", "220000011000001100000110000011000001100000 "
                + "321000100000000000000000000000000000000000", () -> netsOf(three));
        routes("i i i i x3,1 >2 >4", 2, "211000020000001100000110000011000001100000 "
                + "111000210000100000000000000000000000000000");
    }

    private static void lastEdges() {
        says("There are 84 edges; the crossings have the columns and rows from 0 to 6");
        // Found by searching: ways round the cells at the border, by the edges 47, 6, 77, and by
        // the edges 41 and 83 of the last crossing.
        Latticefit x = mapped("i i a1,0 a0,0 >2 >3");
        x.fix(0, 11);
        x.fix(1, 5);
        answers("route(20)", 1, () -> x.route(20));
        answers("the nets", "000002111000001100000110000011000001100000 "
                + "122221122221000000000000000000000000000000", () -> netsOf(x));
        Latticefit y = mapped("i i a1,0 a2,1 >2 >3");
        y.fix(0, 5);
        y.fix(1, 29);
        answers("route(20)", 1, () -> y.route(20));
        answers("the nets", "000002110000201000020100002011000001100000 "
                + "122221111111000000000000011110000000000000", () -> netsOf(y));
        routesFixed("r0 r0 r0 x2,1 a3,3 f0,4 f1,4 >0 >2", 0, 35, 1,
                "001002000000210000021000002100000211100000 "
                + "022220001111000000000000000000122221000000");
        routesFixed("i i i r0 o1,0 f3,4 >0 >1 >4 >4 >3 >2", 0, 35, 1,
                "101002010001201000120100012010001201100021 "
                + "122220001100000000000000000000011121001121");
    }

    // ---- wires and times

    private static void wiresOfNets() {
        says("by rising nodes, the first one has the wire 0 and the second one the wire 1");
        // The net 0 goes by the edge 42 and the row 1, the net 1 by the edge 42 and the row 0.
        Latticefit x = mapped("i i >1 >0");
        x.route(20);
        answers("wireOf(0, 42)", 0, () -> x.wireOf(0, 42));
        answers("wireOf(1, 42)", 1, () -> x.wireOf(1, 42));
        answers("wireOf(0, 1)", 0, () -> x.wireOf(0, 1));
        answers("wireOf(1, 0), alone", 0, () -> x.wireOf(1, 0));
        answers("wireOf(0, 0), which it has not", NONE, () -> x.wireOf(0, 0));
        answers("wireOf(0, 43), which none has", NONE, () -> x.wireOf(0, 43));
        // The first net of an edge need not be that of the node 0.
        Latticefit y = mapped("i i i >2 >1");
        y.route(20);
        answers("netsOn(42)", 1, () -> y.netsOn(42));
        answers("wireOf(2, 42)", 0, () -> y.wireOf(2, 42));
        answers("wireOf(2, 43)", 0, () -> y.wireOf(2, 43));
        answers("wireOf(0, 42)", NONE, () -> y.wireOf(0, 42));
    }

    private static void timesOfGates() {
        says("The time of a gate with a table is 3 plus the latest time at which an input arrives");
        Latticefit x = mapped("i n0 >1");
        x.route(1);
        answers("timeOf(1), 0 edges away", 3, () -> x.timeOf(1));
        answers("timeOf(0)", 0, () -> x.timeOf(0));
        Latticefit y = mapped("i i i a0,2 >3");
        y.route(1);
        answers("timeOf(3), 0 and 2 edges away", 5, () -> y.timeOf(3));
        Latticefit z = mapped("i i i a0,2 >3");
        z.fix(0, 2);
        z.route(1);
        answers("timeOf(3), 2 and 0 edges away", 5, () -> z.timeOf(3));
        Latticefit far = mapped("i n0 >1");
        far.fix(0, 35);
        far.route(1);
        answers("timeOf(1), 10 edges away", 13, () -> far.timeOf(1));
        says("A node arrives at a sink at its time plus the number of edges of the way");
        // The gate 7 has the inputs 0 to 3, which are 2, 1, 0 and 1 edges away; the gate 8, in the
        // next row, has the gate 7 and the input 4.
        Latticefit chain = mapped("i i i i i a0,1 a2,3 a5,6 a7,4 >8");
        chain.fix(0, 2);
        chain.fix(1, 3);
        answers("route(1)", 1, () -> chain.route(1));
        answers("isRouted()", true, chain::isRouted);
        answers("timeOf(7)", 5, () -> chain.timeOf(7));
        answers("timeOf(8)", 9, () -> chain.timeOf(8));
        answers("slowest(), 9 edges on to the output", 18, chain::slowest);
    }

    private static void timesOfRegisters() {
        says("at which the tables of blocks with a register have their values");
        // The register's own way has no edges: its table has its value at 3, and the output arrives
        // when it is as many edges away.
        int[][] due = {{30, 3}, {24, 3}, {18, 3}, {12, 4}, {6, 5}, {0, 6}};
        for (int[] at : due) {
            Latticefit x = mapped("r0 >0");
            x.fix(0, at[0]);
            x.route(1);
            answers("slowest() in cell " + at[0], at[1], x::slowest);
            answers("timeOf(0), a register", 0, () -> x.timeOf(0));
        }
        says("which is for one that passes on 3 plus the time at which its input arrives");
        Latticefit y = mapped("i r0 f1,0 >0");
        y.fix(0, 9);
        y.route(1);
        answers("slowest(), 4 edges away", 7, y::slowest);
        Latticefit z = mapped("i r0 f1,0 >0");
        z.fix(0, 2);
        z.route(1);
        answers("slowest(), 2 edges away, and 6 to the output", 6, z::slowest);
        says("of blocks with a register, of all of them");
        // The gate 2 has its value at 3, arrives at the block 1 at 6, and is passed on at 9.
        Latticefit last = mapped("i r0 n0 r0 r0 f1,2 f3,2 f4,1 >0");
        last.fix(0, 0);
        last.fix(1, 6);
        last.fix(2, 12);
        last.route(1);
        answers("slowest(), of the block 1", 9, last::slowest);
        Latticefit eighth = mapped("i r0 r0 r0 r0 r0 r0 r0 r0 f8,0 >0");
        eighth.fix(7, 35);
        eighth.route(1);
        answers("slowest(), of the block 7", 13, eighth::slowest);
    }

    private static void slowestOutputs() {
        says("The slowest time is the latest one of those at which nodes arrive at outputs");
        answers("slowest() of an input, 6 edges away", 6, routed("i >0")::slowest);
        answers("slowest() of six outputs of it", 11, routed("i >0 >0 >0 >0 >0 >0")::slowest);
        answers("slowest() of a gate", 9, routed("i n0 >1")::slowest);
        answers("slowest() of a gate ahead of an input", 9, routed("i n0 >1 >0")::slowest);
    }

    private static Latticefit routed(String circuit) {
        Latticefit x = mapped(circuit);
        x.route(20);
        return x;
    }

    // ---- bitstream

    private static void framesOfCells() {
        says("The frames 0 to 5: for each cell by rising rows, 6 words");
        for (int cell = 0; cell < 36; cell++) {
            Latticefit x = mapped("i n0 >1");
            x.fix(0, cell);
            x.route(1);
            x.build();
            int at = cell;
            answers("the table in cell " + cell, 21845, () -> x.wordAt(at / 6, 6 * (at % 6)));
            answers("its code is one", true, () -> x.wordAt(at / 6, 6 * (at % 6) + 1) > 0);
            int used = 0;
            for (int frame = 0; frame < 6; frame++) {
                for (int i = 0; i < 36; i++) {
                    used += x.wordAt(frame, i) != 0 ? 1 : 0;
                }
            }
            due("words that are not 0 with the block in cell " + cell, used, 2);
        }
        says("the codes of the 4 inputs of the table");
        Latticefit y = mapped("i i i i a0,1 a2,3 a4,5 >6");
        y.fix(0, 2);
        y.route(20);
        y.build();
        answers("the input 0 by the edge 43", 87, () -> y.wordAt(0, 13));
        answers("the input 1 by the edge 43", 88, () -> y.wordAt(0, 14));
        answers("the input 2, at its source", 302, () -> y.wordAt(0, 15));
        answers("the input 3 by the edge 44", 89, () -> y.wordAt(0, 16));
        answers("no register", 0, () -> y.wordAt(0, 17));
    }

    private static void framesOfCrossings() {
        says("The frames 6 to 12: for each edge whose lower end is in this column, 2 words");
        // The input 5 goes down the column 0, by the edges 46 to 42, and along the row 0.
        Latticefit x = built("i i i i i i >5");
        answers("the edge 46, from the source", 305, () -> x.wordAt(6, 22));
        for (int edge = 45; edge >= 42; edge--) {
            int at = edge;
            answers("the edge " + edge, 1 + 2 * (edge + 1), () -> x.wordAt(6, 14 + 2 * (at - 42)));
        }
        answers("the edge 0, from the edge 42", 85, () -> x.wordAt(6, 0));
        for (int column = 1; column < 6; column++) {
            int frame = 6 + column;
            answers("the edge " + 7 * column, 1 + 14 * (column - 1), () -> x.wordAt(frame, 0));
        }
        answers("the output 0", 71, () -> x.wordAt(13, 0));
        says("the last column of crossings has no edges to a next one");
        Latticefit y = built("i >0 >0 >0 >0 >0 >0");
        answers("the edge 78, from the edge 35", 71, () -> y.wordAt(12, 0));
        for (int row = 1; row < 5; row++) {
            int index = 2 * row;
            answers("the edge " + (78 + row), 1 + 2 * (77 + row), () -> y.wordAt(12, index));
        }
        answers("the edge 83", 0, () -> y.wordAt(12, 10));
        says("for the wires 0 and 1");
        Latticefit z = built("i i >1 >0");
        answers("the edge 42, wire 0", 300, () -> z.wordAt(6, 14));
        answers("the edge 42, wire 1", 301, () -> z.wordAt(6, 15));
        answers("the edge 0, from the wire 1", 86, () -> z.wordAt(6, 0));
        answers("the edge 1, from the wire 0", 85, () -> z.wordAt(6, 2));
    }

    private static void frameOfOutputs() {
        says("The frame 13 has 6 words, for the outputs");
        Latticefit x = built("i >0 >0 >0 >0 >0 >0");
        answers("the output 0", 71, () -> x.wordAt(13, 0));
        for (int output = 1; output < 6; output++) {
            int at = output;
            answers("the output " + output, 1 + 2 * (77 + at), () -> x.wordAt(13, at));
        }
        says("All that is not there is 0");
        Latticefit y = built("i >0");
        for (int output = 1; output < 6; output++) {
            int at = output;
            answers("the output " + output, 0, () -> y.wordAt(13, at));
        }
        answers("build() of six wires and an output", 7, y::build);
        answers("build() of eleven wires and six outputs", 17, x::build);
        Latticefit z = mapped("r0 >0");
        z.fix(0, 30);
        z.route(1);
        answers("build() of a table, a code, a register, a wire and an output", 5, z::build);
        answers("build() of a table and a code in the frame 0, six wires and an output", 9,
                () -> routed("i n0 >1").build());
    }

    private static void wordsOfRegisters() {
        says("1 plus 2 times its initial value plus 4 times its clock");
        for (int clock = 0; clock < 3; clock++) {
            int word = 1 + 4 * clock;
            answers("a zero", word, () -> built("r" + word / 4 + " >0").wordAt(0, 5));
            answers("a one", word + 2, () -> built("R" + word / 4 + " >0").wordAt(0, 5));
        }
        answers("no register", 0, () -> built("i n0 >1").wordAt(0, 5));
        says("200 plus 2 times the cell for the table, 201 for the register of a block");
        int[] cells = {0, 5, 6, 30, 35};
        for (int cell : cells) {
            Latticefit x = mapped("r0 n0 >0");
            x.fix(0, cell);
            x.route(1);
            x.build();
            answers("the register's own code in cell " + cell, 201 + 2 * cell,
                    () -> x.wordAt(cell / 6, 6 * (cell % 6) + 1));
        }
        Latticefit y = mapped("i r0 n0 f1,2 r0 f3,2 >0");
        y.fix(0, 35);
        y.fix(1, 34);
        y.route(20);
        y.build();
        // The block in cell 34 passes on the gate in cell 35, by the edge 42 + 6 * 5 + 4.
        answers("the code of the edge 76", 153, () -> y.wordAt(5, 25));
        answers("the word of its wire", 270, () -> y.wordAt(11, 22));
    }

    private static void lastWires() {
        says("1 plus 2 times the edge plus the wire, up to 168");
        Latticefit x = lastWired();
        answers("the nets", "012110100122010010221001022100102220111212 "
                + "112211012100000220000000000011011220111122", () -> netsOf(x));
        int lasts = 0;
        for (int node = 0; node < 16; node++) {
            int at = node;
            Object wire = wireOn(x, at);
            lasts += wire instanceof Integer ? 1 + (Integer) wire : 0;
        }
        due("the wires 0 and 1 of the edge 83, plus 1", lasts, 3);
        answers("the word of the wire 0 is one", true, () -> x.wordAt(12, 10) > 0);
        answers("the word of the wire 1 is one", true, () -> x.wordAt(12, 11) > 0);
        boolean isTold = false;
        Latticefit y = lastWired();
        for (int frame = 0; frame < 14; frame++) {
            for (int i = 0; i < FRAME_LENGTHS[frame]; i++) {
                isTold |= i % 6 != 0 && y.wordAt(frame, i) == 168;
            }
        }
        due("the code 168 is told", isTold, true);
    }

    /** Found by searching: two nets go by the last edge. */
    private static Latticefit lastWired() {
        Latticefit x = mapped("i i i i i i a3,5 x0,4 a7,1 x5,7 a4,9 a9,1 o5,0 a9,9 o13,12 a2,9 "
                + ">8 >3 >13 >0 >6 >7");
        x.fix(0, 34);
        x.fix(1, 29);
        x.fix(2, 35);
        answers("route(20)", 2, () -> x.route(20));
        x.build();
        return x;
    }

    private static Object wireOn(Latticefit x, int node) {
        try {
            return x.wireOf(node, 83);
        } catch (NoSuchElementException e) {
            return "none";
        }
    }

    private static void checks() {
        says("1 at first, and for each word 31 times itself plus the word, modulo 65521");
        // The last one has tables with the words 65535 and 0.
        for (String circuit : new String[] {"i i x0,1 >2", TWENTY, NINETEEN, "i x0,0 n1 >1 >2"}) {
            Latticefit x = built(circuit);
            for (int frame = 0; frame < 14; frame++) {
                int at = frame;
                long check = 1;
                for (int i = 0; i < FRAME_LENGTHS[frame]; i++) {
                    check = (check * 31 + x.wordAt(frame, i)) % 65521;
                }
                answers("check(" + frame + ") of " + circuit, (int) check, () -> x.check(at));
            }
        }
        says("modulo 65521: the words 0 and 65521 are the same for it, and 65520 is not");
        Latticefit y = started("i >0");
        flipTo(y, 0, 3, 0, 65521);
        answers("isBad(0) with 65521", false, () -> y.isBad(0));
        answers("scrub() of none", 0, y::scrub);
        answers("flip(0, 3, 0), still there", 65520, () -> y.flip(0, 3, 0));
        answers("isBad(0) with 65520", true, () -> y.isBad(0));
        answers("scrub() of one", 1, y::scrub);
        answers("flip(0, 3, 0), gone", 1, () -> y.flip(0, 3, 0));
        answers("isBad(0)", true, () -> y.isBad(0));
        flipTo(y, 0, 3, 1, 65522);
        answers("isBad(0) with 65522", true, () -> y.isBad(0));
    }

    // ---- chip

    private static void chipsOwnFrames() {
        says("The chip has its own frames, which become those of the bitstream by start()");
        Latticefit x = started("i i x0,1 >2");
        int check = x.check(0);
        answers("flip(0, 0, 0)", 26215, () -> x.flip(0, 0, 0));
        answers("wordAt(0, 0)", 26214, () -> x.wordAt(0, 0));
        answers("check(0)", check, () -> x.check(0));
        answers("isBad(0)", true, () -> x.isBad(0));
        answers("start()", 1, x::start);
        answers("isBad(0)", false, () -> x.isBad(0));
        answers("flip(0, 0, 0)", 26215, () -> x.flip(0, 0, 0));
        answers("flip(0, 0, 0) back", 26214, () -> x.flip(0, 0, 0));
        answers("isBad(0)", false, () -> x.isBad(0));
    }

    /** The output 0 is made to tell other codes, from 71 on. */
    private static void codesOfCells() {
        says("200 plus 2 times the cell for the table, 201 plus 2 times the cell for the register");
        // The registers are one, and their tables pass on what they have.
        Latticefit x = mapped("R0 R0 R0 i >3");
        x.fix(1, 35);
        x.fix(2, 17);
        x.route(20);
        x.build();
        x.start();
        int before = x.wordAt(13, 0);
        int[][] due = {{198, 0}, {199, 0}, {200, 1}, {201, 1}, {202, 0}, {203, 0}, {233, 0},
            {234, 1}, {235, 1}, {236, 0}, {269, 0}, {270, 1}, {271, 1}, {272, 0}, {273, 0},
            {299, 0}, {300, 0}, {65535, 0}, {200 + 65536 / 2, 0}};
        for (int[] at : due) {
            flipTo(x, 13, 0, before, at[0]);
            before = at[0];
            answers("chipOutput(0) of " + at[0], at[1] == 1, () -> x.chipOutput(0));
        }
        answers("circuitOutput(0)", false, () -> x.circuitOutput(0));
    }

    private static void codesOfInputs() {
        says("300 plus the number among inputs for an input; no value is false");
        Latticefit x = started("i i i i i i >0");
        for (int input = 0; input < 6; input++) {
            x.setInput(input, true);
        }
        int before = x.wordAt(13, 0);
        for (int code : new int[] {0, 298, 299, 300, 301, 302, 303, 304, 305, 306, 307, 512}) {
            flipTo(x, 13, 0, before, code);
            before = code;
            answers("chipOutput(0) of " + code, code >= 300 && code <= 305,
                    () -> x.chipOutput(0));
        }
        says("the value is that of the input alone");
        x.setInput(5, false);
        flipTo(x, 13, 0, before, 305);
        answers("chipOutput(0) of 305", false, () -> x.chipOutput(0));
        flipTo(x, 13, 0, 305, 304);
        answers("chipOutput(0) of 304", true, () -> x.chipOutput(0));
        answers("sourceOf(0, 0)", NONE, () -> x.sourceOf(0, 0));
        flipTo(x, 0, 1, 0, 305);
        answers("sourceOf(0, 0) of 305", 5, () -> x.sourceOf(0, 0));
        flipTo(x, 0, 1, 305, 306);
        answers("sourceOf(0, 0) of 306", NONE, () -> x.sourceOf(0, 0));
    }

    private static void codesOfWires() {
        says("for a wire, the value of the code in its word");
        for (int edge : new int[] {1, 6, 41, 42, 47, 48, 77, 78, 83}) {
            for (int wire = 0; wire < 2; wire++) {
                Latticefit x = started("i >0");
                x.setInput(0, true);
                int code = 1 + 2 * edge + wire;
                flipTo(x, 13, 0, 71, code);
                answers("chipOutput(0) of " + code + ", a wire of nothing", false,
                        () -> x.chipOutput(0));
                flipTo(x, frameOfEdge(edge), indexOfEdge(edge) + wire, 0, 300);
                answers("chipOutput(0) of " + code + ", a wire of the input", true,
                        () -> x.chipOutput(0));
                flipTo(x, 0, 1, 0, code);
                answers("sourceOf(0, 0) of " + code, 0, () -> x.sourceOf(0, 0));
            }
        }
        says("no value is false, as is that of any other code, such as 0 and 169");
        Latticefit y = started("i >0");
        y.setInput(0, true);
        answers("chipOutput(0) of the wire 71", true, () -> y.chipOutput(0));
        flipTo(y, 13, 0, 71, 169);
        answers("chipOutput(0) of 169", false, () -> y.chipOutput(0));
        flipTo(y, 13, 0, 169, 0);
        answers("chipOutput(0) of 0", false, () -> y.chipOutput(0));
        answers("circuitOutput(0)", true, () -> y.circuitOutput(0));
        flipTo(y, 13, 0, 0, 1);
        answers("chipOutput(0) of 1, the first wire", true, () -> y.chipOutput(0));
    }

    /** As long a chain of wires as 512 calls let come about, of the codes with the fewest bits. */
    private static void longWays() {
        says("and so on, but no value after 200 wires");
        Latticefit x = started("i >0");
        x.setInput(0, true);
        int calls = 7;
        int at = 71;
        int frame = 13;
        int index = 0;
        int wires = 0;
        for (int bits = 1; bits < 9; bits++) {
            for (int code = 1; code <= 168 && calls < 495; code++) {
                if (Integer.bitCount(code) != bits || (code % 14 == 1 && code < 72)) {
                    continue;
                }
                calls += flipTo(x, frame, index, at, code);
                at = 0;
                frame = frameOfEdge((code - 1) / 2);
                index = indexOfEdge((code - 1) / 2) + (code - 1) % 2;
                wires++;
            }
        }
        answers("chipOutput(0) ahead of the last flips", false, () -> x.chipOutput(0));
        calls += flipTo(x, frame, index, at, 300);
        answers("chipOutput(0) behind " + wires + " wires", true, () -> x.chipOutput(0));
        due("more than 120 wires", wires > 120, true);
        due("at most 512 calls", calls + 2 <= 512, true);
    }

    private static void ringsOfWires() {
        says("no value after 200 wires, as in a ring");
        Latticefit x = started("i >0");
        x.setInput(0, true);
        flipTo(x, 6, 0, 300, 1);
        answers("chipOutput(0) of a wire of itself", false, () -> x.chipOutput(0));
        flipTo(x, 6, 0, 1, 15);
        answers("chipOutput(0) of a ring of two", false, () -> x.chipOutput(0));
        flipTo(x, 6, 0, 15, 71);
        answers("chipOutput(0) of a ring of six", false, () -> x.chipOutput(0));
        flipTo(x, 0, 1, 0, 29);
        answers("sourceOf(0, 0) in a ring", NONE, () -> x.sourceOf(0, 0));
        flipTo(x, 6, 0, 71, 300);
        answers("chipOutput(0) of no ring", true, () -> x.chipOutput(0));
        answers("sourceOf(0, 0) in no ring", 0, () -> x.sourceOf(0, 0));
    }

    /** Tables in a ring, the first one inverting: after 21 times all are one, after 42 all zero. */
    private static void fortyTimes() {
        says("false at first, and then found anew 40 times, each time from the values before");
        Latticefit x = started("i >0");
        int ring = 21;
        for (int cell = 0; cell < ring; cell++) {
            int frame = cell / 6;
            int index = 6 * (cell % 6);
            x.flip(frame, index, cell == 0 ? 0 : 1);
            flipTo(x, frame, index + 1, 0, 200 + 2 * ((cell + ring - 1) % ring));
        }
        int before = 71;
        for (int cell : new int[] {0, 1, 17, 18, 19, 20}) {
            flipTo(x, 13, 0, before, 200 + 2 * cell);
            before = 200 + 2 * cell;
            answers("chipOutput(0) of cell " + cell, cell >= 19, () -> x.chipOutput(0));
        }
        // One more table in the ring, so that all was zero after 44 times: 19 to 21 are one then.
        flipTo(x, 0, 1, 240, 242);
        x.flip(3, 18, 1);
        flipTo(x, 3, 19, 0, 240);
        for (int cell : new int[] {17, 18, 20, 21}) {
            flipTo(x, 13, 0, before, 200 + 2 * cell);
            before = 200 + 2 * cell;
            answers("chipOutput(0) of cell " + cell + " of 22", cell >= 18,
                    () -> x.chipOutput(0));
        }
    }

    private static void allTablesSwing() {
        says("The values of all tables are false at first, and then found anew 40 times");
        // All 36 tables invert themselves: they are one after each odd time.
        Latticefit x = started("i >0");
        for (int cell = 0; cell < 36; cell++) {
            x.flip(cell / 6, 6 * (cell % 6), 0);
            flipTo(x, cell / 6, 6 * (cell % 6) + 1, 0, 200 + 2 * cell);
        }
        int before = 71;
        for (int cell : new int[] {0, 1, 17, 34, 35}) {
            flipTo(x, 13, 0, before, 200 + 2 * cell);
            before = 200 + 2 * cell;
            answers("chipOutput(0) of cell " + cell, false, () -> x.chipOutput(0));
        }
        // Now that of the cell 35 is one in each row.
        x.flip(5, 30, 1);
        answers("chipOutput(0) of cell 35", true, () -> x.chipOutput(0));
    }

    private static void rowsOfTables() {
        says("the value of the gate if the input j of the table has the value of bit j of k");
        for (String gates : new String[] {"a0,1 a2,3 a4,5", "o0,1 o2,3 o4,5", "x0,1 x2,3 x4,5",
            "a0,1 o2,3 x4,5", "n0 a4,3 o5,2 a6,1", "n3 x4,2 n1 o5,6 a7,0"}) {
            int gate = 3 + gates.split(" ").length;
            Latticefit x = started("i i i i " + gates + " >" + gate);
            for (int k = 0; k < 16; k++) {
                for (int j = 0; j < 4; j++) {
                    x.setInput(j, (k >> j & 1) == 1);
                }
                boolean due = valueOf(gates, k);
                String row = " of row " + k + " of " + gates;
                answers("circuitOutput(0)" + row, due, () -> x.circuitOutput(0));
                answers("chipOutput(0)" + row, due, () -> x.chipOutput(0));
                answers("agrees()" + row, true, x::agrees);
                answers("word(0)" + row, due, () -> (x.word(0) >> rowOf(x)) % 2 == 1);
            }
        }
    }

    /** The row that the inputs of the table in cell 0 have; it sets no input otherwise. */
    private static int rowOf(Latticefit x) {
        int row = 0;
        for (int j = 0; j < 4; j++) {
            boolean isOne = x.setInput(x.inputOf(0, j), true);
            x.setInput(x.inputOf(0, j), isOne);
            row |= isOne ? 1 << j : 0;
        }
        return row;
    }

    private static boolean valueOf(String gates, int k) {
        boolean[] values = new boolean[12];
        for (int j = 0; j < 4; j++) {
            values[j] = (k >> j & 1) == 1;
        }
        int at = 4;
        for (String gate : gates.split(" ")) {
            String[] inputs = gate.substring(1).split(",");
            boolean one = values[Integer.parseInt(inputs[0])];
            boolean other = values[Integer.parseInt(inputs[inputs.length - 1])];
            switch (gate.charAt(0)) {
                case 'a' -> values[at] = one && other;
                case 'o' -> values[at] = one || other;
                case 'x' -> values[at] = one != other;
                default -> values[at] = !one;
            }
            at++;
        }
        return values[at - 1];
    }

    private static void registersThatTake() {
        says("takes values if the last word of the cell is odd; its clock is it by 4, modulo 4");
        // The table of the cell 35, without inputs, has the value of its bit 0.
        Latticefit x = started("i >0");
        x.flip(5, 30, 0);
        int before = 0;
        for (int word : new int[] {0, 1, 2, 3, 4, 5, 7, 9, 11, 12, 13, 15, 16, 17, 21, 29, 32769}) {
            flipTo(x, 5, 35, before, word);
            before = word;
            for (int clock = 0; clock < 3; clock++) {
                int at = clock;
                boolean isTaken = word % 2 == 1 && word / 4 % 4 == clock;
                x.tick(clock);
                answers("chipRegister(35) of " + word + " behind tick(" + clock + ")", isTaken,
                        () -> x.chipRegister(35));
                if (isTaken) {
                    x.flip(5, 30, 0);
                    x.tick(at);
                    x.flip(5, 30, 0);
                }
            }
        }
        says("the register of a cell: words of wires are none of theirs");
        Latticefit z = started("i >0");
        flipTo(z, 6, 5, 0, 1);
        flipTo(z, 6, 11, 0, 1);
        answers("tick(0)", 1L, () -> z.tick(0));
        for (int cell : new int[] {0, 5, 30, 35}) {
            int at = cell;
            answers("chipRegister(" + cell + ")", false, () -> z.chipRegister(at));
        }
        says("otherwise it keeps its value, which codes tell all the same");
        Latticefit y = started("R0 >0");
        y.flip(0, 5, 0);
        y.flip(0, 0, 1);
        y.tick(0);
        answers("chipRegister(0), kept", true, () -> y.chipRegister(0));
        answers("chipOutput(0), told", true, () -> y.chipOutput(0));
        y.flip(0, 5, 0);
        y.tick(0);
        answers("chipRegister(0), taken", false, () -> y.chipRegister(0));
        answers("circuitOutput(0)", true, () -> y.circuitOutput(0));
    }

    // ---- running

    private static void startsOfRegisters() {
        says("By start(), all registers get the initial values that the circuit tells");
        Latticefit x = started("R0 r0 R1 r2 R2 r1 R0 R0 >0 >1 >2 >3 >4 >5");
        for (int register = 0; register < 8; register++) {
            int at = register;
            boolean isOne = "10101011".charAt(register) == '1';
            answers("chipRegister(" + register + ")", isOne, () -> x.chipRegister(at));
            if (register < 6) {
                answers("circuitOutput(" + register + ")", isOne, () -> x.circuitOutput(at));
                answers("chipOutput(" + register + ")", isOne, () -> x.chipOutput(at));
            }
        }
        says("the registers of cells without one become false");
        x.flip(5, 35, 0);
        x.flip(5, 30, 0);
        x.tick(0);
        answers("chipRegister(35)", true, () -> x.chipRegister(35));
        x.start();
        answers("chipRegister(35) behind start()", false, () -> x.chipRegister(35));
        answers("chipRegister(8)", false, () -> x.chipRegister(8));
        says("and all inputs become false");
        Latticefit y = started("i i >0 >1");
        y.setInput(1, true);
        y.start();
        answers("chipOutput(1)", false, () -> y.chipOutput(1));
        answers("circuitOutput(1)", false, () -> y.circuitOutput(1));
        answers("setInput(1, false)", false, () -> y.setInput(1, false));
    }

    private static void inputsOfBoth() {
        says("Inputs are the same for both");
        Latticefit x = started("i i i i i i >0 >1 >2 >3 >4 >5");
        for (int input = 0; input < 6; input++) {
            int at = input;
            answers("setInput(" + input + ", true)", false, () -> x.setInput(at, true));
            answers("setInput(" + input + ", true) again", true, () -> x.setInput(at, true));
            for (int output = 0; output < 6; output++) {
                int of = output;
                answers("chipOutput(" + output + ")", output <= input, () -> x.chipOutput(of));
                answers("circuitOutput(" + output + ")", output <= input,
                        () -> x.circuitOutput(of));
            }
        }
        for (int input = 0; input < 6; input++) {
            int at = input;
            answers("setInput(" + input + ", false)", true, () -> x.setInput(at, false));
            answers("chipOutput(" + input + ")", false, () -> x.chipOutput(at));
        }
    }

    private static void ticksAtOnce() {
        says("the registers that have it take the values of the nodes that feed them, all at once");
        // A one goes round in a ring of eight registers.
        Latticefit x = started("R0 r0 r0 r0 r0 r0 r0 r0 "
                + "f1,0 f2,1 f3,2 f4,3 f5,4 f6,5 f7,6 f0,7 >0");
        for (int step = 1; step <= 9; step++) {
            answers("tick(0)", (long) step, () -> x.tick(0));
            for (int register = 0; register < 8; register++) {
                int at = register;
                answers("chipRegister(" + register + ") behind " + step, register == step % 8,
                        () -> x.chipRegister(at));
            }
            answers("circuitOutput(0)", step == 8, () -> x.circuitOutput(0));
            answers("agrees()", true, x::agrees);
        }
        says("When a clock ticks, the registers that have it");
        Latticefit y = started("i r0 r1 r2 f1,0 f2,0 f3,0 >1 >2 >3");
        y.setInput(0, true);
        for (int clock = 2; clock >= 0; clock--) {
            y.tick(clock);
            for (int output = 0; output < 3; output++) {
                int at = output;
                answers("circuitOutput(" + output + ")", output >= clock,
                        () -> y.circuitOutput(at));
                answers("chipOutput(" + output + ")", output >= clock, () -> y.chipOutput(at));
            }
        }
    }

    private static void scrubbedRegisters() {
        says("Loads all bad frames anew from the bitstream; registers keep their values");
        Latticefit x = started("r0 i n0 f0,2 >0");
        x.tick(0);
        answers("chipRegister(0)", true, () -> x.chipRegister(0));
        x.setInput(0, true);
        flipTo(x, 0, 0, 21845, 65535);
        answers("scrub()", 1, x::scrub);
        answers("chipRegister(0) behind it", true, () -> x.chipRegister(0));
        answers("setInput(0, true) behind it", true, () -> x.setInput(0, true));
        answers("tick(0) behind it", 2L, () -> x.tick(0));
        answers("chipRegister(0), not of one", false, () -> x.chipRegister(0));
        answers("agrees()", true, x::agrees);
        answers("scrub() of none", 0, x::scrub);
        answers("isBad(14)", INDEX, () -> x.isBad(14));
    }
}
