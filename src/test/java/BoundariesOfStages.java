import java.util.ArrayList;
import java.util.Arrays;
import java.util.LinkedHashMap;
import java.util.List;
import java.util.Map;
import java.util.NoSuchElementException;

/**
 * The sentences on stages, and 'A method that throws an exception changes nothing': each call that
 * changes a stage, from each stage on, with each call that needs one behind it; and each call that
 * is refused, in each stage, with everything that can be asked behind it. No object has more than
 * 512 calls: the questions come in groups, each one to an object of its own.
 */
public final class BoundariesOfStages {
    private static final Class<?> INDEX = IndexOutOfBoundsException.class;
    private static final Class<?> STATE = IllegalStateException.class;
    private static final Class<?> ARGUMENT = IllegalArgumentException.class;
    private static final Class<?> NONE = NoSuchElementException.class;
    private static final Class<?> UNSUPPORTED = UnsupportedOperationException.class;

    private static final int CHANGED = 0;
    private static final int MAPPED = 1;
    private static final int ROUTED = 2;
    private static final int BUILT = 3;
    private static final int STARTED = 4;
    private static final int SAME = -1;
    private static final int[] FRAME_LENGTHS = {
        36, 36, 36, 36, 36, 36, 26, 26, 26, 26, 26, 26, 12, 6};

    // It takes two rounds to be routed; the register 4 and the gate 3 have the block 0.
    private static final String TWO_ROUNDS = "i i i x1,2 r0 f4,3 >1 >3 >0";

    // Of its five blocks, 0 has the register 2 and the gate 4, 1 passes on 4 for the register 3,
    // and 2 to 4 have the gates 9 to 11; the gates 7 and 8 have no table.
    private static final String RICH =
            "i i R0 r1 x0,2 i i a0,1 a5,6 a7,8 a9,2 n3 f2,4 f3,4 >10 >11";

    private static final String CROWD = "r0 r0 r0 r0 r0 r0 r0 r0 "
            + "a2,7 a6,1 a8,1 a4,8 a11,1 a4,12 a5,11 a13,8 a9,11 a2,6 a11,0 a6,15 a17,16 a8,16 "
            + "a10,19 a19,5 a6,13 a14,12 a20,25 a16,23 a27,21 a13,11 a11,1 a17,8 a31,30 a29,18 "
            + "a30,16 a33,22 a25,9 a34,4 a24,36 a26,30 a10,31 a15,9 a36,40 a36,6 a19,27 a32,28 "
            + "a42,37 a45,35 f0,44 f1,38 f2,38 f3,47 f4,26 f5,46 f6,38 f7,1";

    private static String sentence;
    private static int asked;
    private static int wrong;

    private interface Call {
        Object of();
    }

    private interface Use {
        Object of(Latticefit x);
    }

    private interface Maker {
        Latticefit make();
    }

    private static void says(String words) {
        sentence = words;
    }

    private static void due(String call, Object got, Object want) {
        asked++;
        if (!want.equals(got)) {
            wrong++;
            System.out.println("[" + sentence + "] " + call + " answered " + got + ", due is "
                    + want);
        }
    }

    private static Object answerOf(Call call) {
        try {
            return call.of();
        } catch (RuntimeException e) {
            return e.getClass();
        }
    }

    // ---- circuits: i (input), r and R (register, zero or one at first, with its clock), gates
    // with their inputs, f (feed), > (output)

    private static Latticefit of(String circuit) {
        Latticefit x = new Latticefit();
        for (String part : circuit.split(" ")) {
            put(x, part.charAt(0), part.substring(1).split(","));
        }
        return x;
    }

    private static void put(Latticefit x, char what, String[] numbers) {
        int one = numbers[0].isEmpty() ? 0 : Integer.parseInt(numbers[0]);
        int other = numbers.length < 2 ? 0 : Integer.parseInt(numbers[1]);
        switch (what) {
            case 'i' -> x.addInput();
            case 'r' -> x.addRegister(false, one);
            case 'R' -> x.addRegister(true, one);
            case 'f' -> x.feed(one, other);
            case '>' -> x.addOutput(one);
            default -> x.addGate(what, one, other);
        }
    }

    private static Latticefit at(int stage, String circuit) {
        Latticefit x = of(circuit);
        if (stage >= MAPPED) {
            x.map();
        }
        if (stage >= ROUTED) {
            x.route(20);
        }
        if (stage >= BUILT) {
            x.build();
        }
        if (stage >= STARTED) {
            x.start();
        }
        return x;
    }

    public static void main(String[] args) {
        changesOfStages();
        changesWithoutSwaps();
        stagesOneByOne();
        refusedInEachStage();
        refusedBelowAStage();
        refusedWhenFull();
        refusedMaps();
        failedRoutes();
        System.out.println(asked - wrong + " of " + asked + " answers are as due");
        if (wrong != 0) {
            System.exit(1);
        }
    }

    // ---- what needs a stage

    private static Map<String, Use> needs(int stage) {
        Map<String, Use> calls = new LinkedHashMap<>();
        if (stage == MAPPED) {
            calls.put("depth(0)", x -> x.depth(0));
            calls.put("isNeeded(0)", x -> x.isNeeded(0));
            calls.put("word(0)", x -> x.word(0));
            calls.put("inputOf(0, 0)", x -> x.inputOf(0, 0));
            calls.put("gateOf(0)", x -> x.gateOf(0));
            calls.put("registerOf(0)", x -> x.registerOf(0));
            calls.put("cellOf(0)", x -> x.cellOf(0));
            calls.put("cost()", Latticefit::cost);
            calls.put("excess()", Latticefit::excess);
            calls.put("fix(0, 35)", x -> x.fix(0, 35));
            calls.put("anneal(0, 1, 1)", x -> x.anneal(0, 1, 1));
            calls.put("route(1)", x -> x.route(1));
        } else if (stage == ROUTED) {
            calls.put("wireOf(0, 0)", x -> x.wireOf(0, 0));
            calls.put("timeOf(3)", x -> x.timeOf(3));
            calls.put("slowest()", Latticefit::slowest);
            calls.put("worstStretch()", Latticefit::worstStretch);
            calls.put("fill()", Latticefit::fill);
            calls.put("build()", Latticefit::build);
        } else if (stage == BUILT) {
            calls.put("wordAt(0, 0)", x -> x.wordAt(0, 0));
            calls.put("check(0)", x -> x.check(0));
            calls.put("start()", Latticefit::start);
        } else {
            calls.put("setInput(0, true)", x -> x.setInput(0, true));
            calls.put("tick(0)", x -> x.tick(0));
            calls.put("circuitOutput(0)", x -> x.circuitOutput(0));
            calls.put("chipOutput(0)", x -> x.chipOutput(0));
            calls.put("chipRegister(0)", x -> x.chipRegister(0));
            calls.put("sourceOf(0, 0)", x -> x.sourceOf(0, 0));
            calls.put("flip(0, 0, 0)", x -> x.flip(0, 0, 0));
            calls.put("isBad(0)", x -> x.isBad(0));
            calls.put("scrub()", Latticefit::scrub);
            calls.put("agrees()", Latticefit::agrees);
        }
        return calls;
    }

    /** Whether behind the making just what needs no later stage is answered. */
    private static void stands(String made, int stage, Maker maker) {
        for (int needed = MAPPED; needed <= STARTED; needed++) {
            boolean isRefused = needed > stage;
            needs(needed).forEach((call, use) -> {
                Latticefit x = maker.make();
                due(call + " " + made + " is refused by the stage",
                        answerOf(() -> use.of(x)) == STATE, isRefused);
            });
        }
        due("isRouted() " + made, maker.make().isRouted(), stage >= ROUTED);
    }

    /** From each stage from one on, a call brings to a stage, or leaves the same one. */
    private static void brings(String call, int from, int to, Use use) {
        for (int before = from; before <= STARTED; before++) {
            int stage = before;
            due(call + " from stage " + stage + " is allowed",
                    answerOf(() -> use.of(at(stage, TWO_ROUNDS))) instanceof Class, false);
            stands("behind " + call + " from stage " + stage, to == SAME ? stage : to, () -> {
                Latticefit x = at(stage, TWO_ROUNDS);
                answerOf(() -> use.of(x));
                return x;
            });
        }
        for (int before = CHANGED; before < from; before++) {
            int stage = before;
            due(call + " from stage " + stage,
                    answerOf(() -> use.of(at(stage, TWO_ROUNDS))), STATE);
            stands("behind " + call + ", refused, from stage " + stage, stage, () -> {
                Latticefit x = at(stage, TWO_ROUNDS);
                answerOf(() -> use.of(x));
                return x;
            });
        }
    }

    private static void changesOfStages() {
        says("If the circuit changes, nothing of this holds any more");
        brings("addInput()", CHANGED, CHANGED, Latticefit::addInput);
        brings("addRegister(true, 1)", CHANGED, CHANGED, x -> x.addRegister(true, 1));
        brings("addGate('n', 0, 0)", CHANGED, CHANGED, x -> x.addGate('n', 0, 0));
        brings("addGate('a', 0, 1)", CHANGED, CHANGED, x -> x.addGate('a', 0, 1));
        brings("addOutput(0)", CHANGED, CHANGED, x -> x.addOutput(0));
        brings("feed(4, 0)", CHANGED, CHANGED, x -> x.feed(4, 0));
        says("also by feeding a register by the node that feeds it already");
        brings("feed(4, 3)", CHANGED, CHANGED, x -> x.feed(4, 3));
        says("If it is mapped anew, it is not routed any more");
        brings("map()", CHANGED, MAPPED, Latticefit::map);
        says("if a block is fixed, it is not routed any more");
        brings("fix(0, 7)", MAPPED, MAPPED, x -> x.fix(0, 7));
        brings("fix(0, 0), where it is", MAPPED, MAPPED, x -> x.fix(0, 0));
        says("or a swap is made by anneal()");
        int seed = seedFor(0, 6);
        brings("anneal(" + seed + ", 1, 50) with a swap", MAPPED, MAPPED,
                x -> x.anneal(seed, 1, 50));
        says("or it is routed anew, unless the last call of route() succeeds");
        brings("route(1), which fails", MAPPED, MAPPED, x -> x.route(1));
        brings("route(2), which succeeds", MAPPED, ROUTED, x -> x.route(2));
        says("The bitstream is built by build(); if it is built anew, the chip is not started");
        brings("build()", ROUTED, BUILT, Latticefit::build);
        says("and the chip started by start()");
        brings("start()", BUILT, STARTED, Latticefit::start);
    }

    private static void changesWithoutSwaps() {
        says("without a swap, all holds on");
        int seed = seedFor(20, 21);
        brings("anneal(" + seed + ", 1, 50) without a swap", MAPPED, SAME,
                x -> x.anneal(seed, 1, 50));
        int same = seedFor(0, 0);
        brings("anneal(" + same + ", 1, 50) of one cell", MAPPED, SAME,
                x -> x.anneal(same, 1, 50));
        int dear = seedFor(0, 35);
        brings("anneal(" + dear + ", 1, 1), too dear", MAPPED, SAME, x -> x.anneal(dear, 1, 1));
        says("what the chip is asked and told changes no stage");
        brings("setInput(0, true)", STARTED, SAME, x -> x.setInput(0, true));
        brings("tick(0)", STARTED, SAME, x -> x.tick(0));
        brings("flip(0, 0, 0)", STARTED, SAME, x -> x.flip(0, 0, 0));
        brings("scrub()", STARTED, SAME, Latticefit::scrub);
        brings("agrees()", STARTED, SAME, Latticefit::agrees);
        says("what is asked about a stage changes none");
        brings("cost()", MAPPED, SAME, Latticefit::cost);
        brings("slowest()", ROUTED, SAME, Latticefit::slowest);
        brings("worstStretch()", ROUTED, SAME, Latticefit::worstStretch);
        brings("check(0)", BUILT, SAME, x -> x.check(0));
        brings("netsOn(0)", CHANGED, SAME, x -> x.netsOn(0));
        brings("isConsistent()", CHANGED, SAME, Latticefit::isConsistent);
    }

    /** A seed whose first step tells two cells. */
    private static int seedFor(int one, int other) {
        for (int seed = 0; seed < 100_000_000; seed++) {
            long first = (seed * 1103515245L + 12345L) % 2147483648L;
            long second = (first * 1103515245L + 12345L) % 2147483648L;
            if (first / 65536 % 36 == one && second / 65536 % 36 == other) {
                return seed;
            }
        }
        throw new AssertionError("no seed tells " + one + " and " + other);
    }

    private static void stagesOneByOne() {
        says("mapped by map(), routed by route(), built by build(), started by start()");
        for (int stage = CHANGED; stage <= STARTED; stage++) {
            int at = stage;
            stands("in stage " + stage, stage, () -> at(at, TWO_ROUNDS));
        }
        says("each stage needs the one before anew");
        Latticefit x = at(STARTED, TWO_ROUNDS);
        x.addInput();
        due("start()", answerOf(x::start), STATE);
        due("build()", answerOf(x::build), STATE);
        due("route(20)", answerOf(() -> x.route(20)), STATE);
        due("map()", answerOf(x::map), 1);
        due("start()", answerOf(x::start), STATE);
        due("build()", answerOf(x::build), STATE);
        due("route(20)", answerOf(() -> x.route(20)), 2);
        due("start()", answerOf(x::start), STATE);
        due("build() is allowed", answerOf(x::build) instanceof Integer, true);
        due("start()", answerOf(x::start), 3);
    }

    // ---- what is refused changes nothing

    /** A circuit with a fixed block, swaps, and a chip that has run and has flipped bits. */
    private static Latticefit rich(int stage) {
        Latticefit x = of(RICH);
        if (stage >= MAPPED) {
            x.map();
            x.fix(1, 8);
            x.anneal(7, 100, 20);
        }
        if (stage >= ROUTED) {
            x.route(20);
        }
        if (stage >= BUILT) {
            x.build();
        }
        if (stage >= STARTED) {
            x.start();
            x.setInput(0, true);
            x.tick(0);
            x.tick(1);
            x.flip(0, 5, 3);
            x.flip(13, 1, 2);
            x.flip(8, 3, 9);
        }
        return x;
    }

    private interface Question {
        void ask(Latticefit x, List<Object> answers);
    }

    private static void tell(List<Object> answers, Call call) {
        answers.add(String.valueOf(answerOf(call)));
    }

    private static List<Question> questions() {
        return List.of(BoundariesOfStages::askCircuit, BoundariesOfStages::askRoutes,
                BoundariesOfStages::askBits, BoundariesOfStages::askChip,
                BoundariesOfStages::askWords, BoundariesOfStages::goOn);
    }

    private static void askCircuit(Latticefit x, List<Object> answers) {
        for (int i = 0; i < 14; i++) {
            int node = i;
            tell(answers, () -> x.kindOf(node));
            tell(answers, () -> x.depth(node));
            tell(answers, () -> x.isNeeded(node));
            tell(answers, () -> x.timeOf(node));
        }
        for (int i = 0; i < 10; i++) {
            int block = i;
            tell(answers, () -> x.word(block));
            tell(answers, () -> x.gateOf(block));
            tell(answers, () -> x.registerOf(block));
            tell(answers, () -> x.cellOf(block));
            for (int j = 0; j < 5; j++) {
                int index = j;
                tell(answers, () -> x.inputOf(block, index));
            }
        }
        tell(answers, x::cost);
        tell(answers, x::excess);
        tell(answers, x::slowest);
        tell(answers, x::worstStretch);
        tell(answers, x::fill);
        tell(answers, x::isRouted);
        tell(answers, x::isConsistent);
    }

    private static void askRoutes(Latticefit x, List<Object> answers) {
        for (int i = 0; i < 84; i++) {
            int edge = i;
            tell(answers, () -> x.netsOn(edge));
            tell(answers, () -> x.wireOf(0, edge));
            tell(answers, () -> x.wireOf(2, edge));
            tell(answers, () -> x.wireOf(10, edge));
        }
    }

    private static void askBits(Latticefit x, List<Object> answers) {
        for (int i = 0; i < 14; i++) {
            int frame = i;
            tell(answers, () -> x.check(frame));
            for (int j = 0; j < FRAME_LENGTHS[frame]; j++) {
                int index = j;
                tell(answers, () -> x.wordAt(frame, index));
            }
        }
    }

    private static void askChip(Latticefit x, List<Object> answers) {
        for (int i = 0; i < 3; i++) {
            int output = i;
            tell(answers, () -> x.circuitOutput(output));
            tell(answers, () -> x.chipOutput(output));
        }
        for (int i = 0; i < 36; i++) {
            int cell = i;
            tell(answers, () -> x.chipRegister(cell));
            for (int j = 0; j < 4; j++) {
                int index = j;
                tell(answers, () -> x.sourceOf(cell, index));
            }
        }
        for (int i = 0; i < 14; i++) {
            int frame = i;
            tell(answers, () -> x.isBad(frame));
        }
        tell(answers, x::agrees);
        for (int i = 0; i < 5; i++) {
            int input = i;
            tell(answers, () -> x.setInput(input, input % 2 == 0));
        }
        for (int i = 0; i < 3; i++) {
            int clock = i;
            tell(answers, () -> x.tick(clock));
            tell(answers, () -> x.circuitOutput(0));
            tell(answers, () -> x.chipOutput(1));
        }
        tell(answers, x::scrub);
        tell(answers, x::start);
        tell(answers, () -> x.setInput(0, true));
        tell(answers, () -> x.tick(0));
    }

    private static void askWords(Latticefit x, List<Object> answers) {
        for (int i = 0; i < 14; i++) {
            int frame = i;
            for (int j = 0; j < FRAME_LENGTHS[frame]; j++) {
                int index = j;
                tell(answers, () -> x.flip(frame, index, 0));
            }
        }
    }

    /** What the next calls do: swaps with what is fixed, routes, then more of the circuit. */
    private static void goOn(Latticefit x, List<Object> answers) {
        tell(answers, () -> x.anneal(99, 200, 30));
        for (int i = 0; i < 6; i++) {
            int block = i;
            tell(answers, () -> x.cellOf(block));
        }
        tell(answers, () -> x.route(20));
        tell(answers, x::slowest);
        for (int i = 0; i < 6; i++) {
            int block = i;
            tell(answers, () -> x.fix(block, 20));
        }
        for (int i = 0; i < 7; i++) {
            tell(answers, x::addInput);
            tell(answers, () -> x.addRegister(true, 2));
            tell(answers, () -> x.addOutput(5));
        }
        tell(answers, () -> x.feed(2, 0));
        tell(answers, () -> x.feed(3, 0));
        for (int i = 0; i < 40; i++) {
            tell(answers, () -> x.addGate('n', 11, 0));
        }
        tell(answers, x::map);
        for (int i = 0; i < 10; i++) {
            int block = i;
            tell(answers, () -> x.registerOf(block));
            tell(answers, () -> x.inputOf(block, 0));
        }
    }

    private static final Map<String, List<Object>> KNOWN = new LinkedHashMap<>();

    /** Behind a call that must be refused, all answers are those of an object without the call. */
    private static void changesNothing(String made, Maker maker, String call, Class<?> want,
            Use use) {
        List<Question> questions = questions();
        for (int i = 0; i < questions.size(); i++) {
            Question question = questions.get(i);
            Latticefit x = maker.make();
            due(call + " " + made, answerOf(() -> use.of(x)), want);
            List<Object> got = new ArrayList<>();
            question.ask(x, got);
            List<Object> without = KNOWN.computeIfAbsent(made + " " + i, key -> {
                List<Object> answers = new ArrayList<>();
                question.ask(maker.make(), answers);
                return answers;
            });
            due("questions " + i + " behind " + call + " " + made, firstOther(got, without),
                    "as without it");
        }
    }

    private static String firstOther(List<Object> got, List<Object> want) {
        for (int i = 0; i < want.size(); i++) {
            if (!want.get(i).equals(got.get(i))) {
                return got.get(i) + " to question " + i + ", where it was " + want.get(i);
            }
        }
        return "as without it";
    }

    private static void inStages(int from, int below, String call, Class<?> want, Use use) {
        for (int i = from; i < below; i++) {
            int stage = i;
            changesNothing("in stage " + stage, () -> rich(stage), call, want, use);
        }
    }

    private static void always(String call, Class<?> want, Use use) {
        inStages(CHANGED, STARTED + 1, call, want, use);
    }

    private static void refusedInEachStage() {
        says("A method that throws an exception changes nothing: numbers that are out of range");
        always("addRegister(true, 3)", ARGUMENT, x -> x.addRegister(true, 3));
        always("addRegister(true, -1)", ARGUMENT, x -> x.addRegister(true, -1));
        always("addGate('b', 0, 0)", ARGUMENT, x -> x.addGate('b', 0, 0));
        always("addGate('a', 12, 0)", INDEX, x -> x.addGate('a', 12, 0));
        always("addGate('o', 0, 12)", INDEX, x -> x.addGate('o', 0, 12));
        always("addGate('n', -1, 0)", INDEX, x -> x.addGate('n', -1, 0));
        always("feed(12, 0)", INDEX, x -> x.feed(12, 0));
        always("feed(2, 12)", INDEX, x -> x.feed(2, 12));
        always("feed(2, -1)", INDEX, x -> x.feed(2, -1));
        always("feed(4, 0)", STATE, x -> x.feed(4, 0));
        always("addOutput(12)", INDEX, x -> x.addOutput(12));
        always("addOutput(-1)", INDEX, x -> x.addOutput(-1));
        always("kindOf(12)", INDEX, x -> x.kindOf(12));
        always("depth(12)", INDEX, x -> x.depth(12));
        always("isNeeded(-1)", INDEX, x -> x.isNeeded(-1));
        always("fix(0, 36)", INDEX, x -> x.fix(0, 36));
        always("anneal(-1, 200, 50)", ARGUMENT, x -> x.anneal(-1, 200, 50));
        always("anneal(1, 201, 50)", ARGUMENT, x -> x.anneal(1, 201, 50));
        always("anneal(1, 0, 50)", ARGUMENT, x -> x.anneal(1, 0, 50));
        always("anneal(1, 200, 51)", ARGUMENT, x -> x.anneal(1, 200, 51));
        always("anneal(1, 200, 0)", ARGUMENT, x -> x.anneal(1, 200, 0));
        always("route(0)", ARGUMENT, x -> x.route(0));
        always("route(21)", ARGUMENT, x -> x.route(21));
        always("netsOn(84)", INDEX, x -> x.netsOn(84));
        always("wireOf(12, 0)", INDEX, x -> x.wireOf(12, 0));
        always("wireOf(0, 84)", INDEX, x -> x.wireOf(0, 84));
        always("timeOf(12)", INDEX, x -> x.timeOf(12));
        always("wordAt(14, 0)", INDEX, x -> x.wordAt(14, 0));
        always("check(14)", INDEX, x -> x.check(14));
        always("setInput(4, true)", INDEX, x -> x.setInput(4, true));
        always("tick(3)", ARGUMENT, x -> x.tick(3));
        always("tick(-1)", ARGUMENT, x -> x.tick(-1));
        always("circuitOutput(2)", INDEX, x -> x.circuitOutput(2));
        always("chipOutput(2)", INDEX, x -> x.chipOutput(2));
        always("chipRegister(36)", INDEX, x -> x.chipRegister(36));
        always("sourceOf(36, 0)", INDEX, x -> x.sourceOf(36, 0));
        always("sourceOf(0, 4)", INDEX, x -> x.sourceOf(0, 4));
        always("flip(14, 0, 0)", INDEX, x -> x.flip(14, 0, 0));
        always("flip(0, 0, 16)", INDEX, x -> x.flip(0, 0, 16));
        always("isBad(14)", INDEX, x -> x.isBad(14));
        int end = STARTED + 1;
        inStages(MAPPED, end, "word(5)", INDEX, x -> x.word(5));
        inStages(MAPPED, end, "inputOf(0, 4)", NONE, x -> x.inputOf(0, 4));
        inStages(MAPPED, end, "gateOf(1)", NONE, x -> x.gateOf(1));
        inStages(MAPPED, end, "registerOf(3)", NONE, x -> x.registerOf(3));
        inStages(MAPPED, end, "fix(5, 0)", INDEX, x -> x.fix(5, 0));
        inStages(MAPPED, end, "fix(1, 0), fixed", UNSUPPORTED, x -> x.fix(1, 0));
        inStages(MAPPED, end, "fix(0, 8), fixed there", UNSUPPORTED, x -> x.fix(0, 8));
        inStages(ROUTED, end, "wireOf(7, 0)", NONE, x -> x.wireOf(7, 0));
        inStages(ROUTED, end, "timeOf(7)", NONE, x -> x.timeOf(7));
        inStages(BUILT, end, "wordAt(0, 36)", NONE, x -> x.wordAt(0, 36));
        inStages(STARTED, end, "flip(0, 36, 0)", NONE, x -> x.flip(0, 36, 0));
        inStages(STARTED, end, "flip(13, 6, 0)", NONE, x -> x.flip(13, 6, 0));
        inStages(STARTED, end, "flip(12, -1, 0)", NONE, x -> x.flip(12, -1, 0));
    }

    private static void refusedBelowAStage() {
        says("A method that throws an exception changes nothing: stages that are not reached");
        for (int needed = MAPPED; needed <= STARTED; needed++) {
            int stage = needed;
            needs(needed).forEach((call, use) -> inStages(CHANGED, stage, call, STATE, use));
        }
    }

    private static void refusedWhenFull() {
        says("A method that throws an exception changes nothing: what is full");
        Maker full = () -> {
            Latticefit x = at(CHANGED, "i i i i i i r0 r0 r0 r0 r0 r0 r0 r0 >0 >1 >2 >3 >4 >13");
            for (int node = 14; node < 48; node++) {
                x.addGate('n', node - 1, 0);
            }
            x.map();
            x.route(20);
            return x;
        };
        changesNothing("at 48 nodes", full, "addInput()", STATE, Latticefit::addInput);
        changesNothing("at 48 nodes", full, "addRegister(true, 0)", STATE,
                x -> x.addRegister(true, 0));
        changesNothing("at 48 nodes", full, "addGate('a', 0, 47)", STATE,
                x -> x.addGate('a', 0, 47));
        changesNothing("at 48 nodes", full, "addOutput(47)", STATE, x -> x.addOutput(47));
        changesNothing("at 48 nodes", full, "addOutput(48)", INDEX, x -> x.addOutput(48));
        Maker six = () -> at(STARTED, "i i i i i i >0 >1 >2 >3 >4 >5");
        changesNothing("at 6 inputs", six, "addInput()", STATE, Latticefit::addInput);
        changesNothing("at 6 inputs", six, "addOutput(5)", STATE, x -> x.addOutput(5));
        Maker eight = () -> at(STARTED, "r0 r1 r2 R0 R1 R2 r0 r1 >7");
        changesNothing("at 8 registers", eight, "addRegister(true, 0)", STATE,
                x -> x.addRegister(true, 0));
    }

    private static void refusedMaps() {
        says("A method that throws an exception changes nothing: map()");
        changesNothing("without outputs", () -> of("i r0 n0 f1,2"), "map()", STATE,
                Latticefit::map);
        changesNothing("of 37 blocks", () -> of(CROWD + " >0"), "map()", UNSUPPORTED,
                Latticefit::map);
        says("the blocks of before are not there any more, whether map() is refused or not");
        Latticefit x = of(CROWD + " >0 f0,0");
        due("map() of 36 blocks", answerOf(x::map), 36);
        due("route(1)", answerOf(() -> x.route(1)), 1);
        x.feed(0, 44);
        due("map() of 37 blocks", answerOf(x::map), UNSUPPORTED);
        due("word(0)", answerOf(() -> x.word(0)), STATE);
        due("cost()", answerOf(x::cost), STATE);
        due("isRouted()", x.isRouted(), false);
        for (int edge = 0; edge < 84; edge++) {
            due("netsOn(" + edge + ")", x.netsOn(edge), 0);
        }
    }

    private static void failedRoutes() {
        says("netsOn: at the end of the last call of route(), also if it did not succeed");
        Latticefit x = at(STARTED, TWO_ROUNDS);
        int[] routed = netsOf(x);
        due("route(1)", answerOf(() -> x.route(1)), 1);
        int[] crowded = netsOf(x);
        int most = 0;
        for (int nets : crowded) {
            most = Math.max(most, nets);
        }
        due("the most nets on an edge", most, 3);
        due("fix(0, 20) is allowed", answerOf(() -> x.fix(0, 20)) instanceof Integer, true);
        due("the nets behind fix()", Arrays.equals(netsOf(x), crowded), true);
        due("route(0)", answerOf(() -> x.route(0)), ARGUMENT);
        due("the nets behind a refused call", Arrays.equals(netsOf(x), crowded), true);
        x.map();
        due("the nets behind map()", Arrays.equals(netsOf(x), new int[84]), true);
        due("route(20)", answerOf(() -> x.route(20)), 2);
        Latticefit y = at(ROUTED, TWO_ROUNDS);
        due("the nets when routed", Arrays.equals(netsOf(y), routed), true);
        due("anneal() with swaps", answerOf(() -> y.anneal(seedFor(0, 6), 1, 50)), 1);
        due("the nets behind it", Arrays.equals(netsOf(y), routed), true);
        y.feed(4, 3);
        due("the nets behind a change", Arrays.equals(netsOf(y), new int[84]), true);
    }

    private static int[] netsOf(Latticefit x) {
        int[] nets = new int[84];
        for (int edge = 0; edge < 84; edge++) {
            nets[edge] = x.netsOn(edge);
        }
        return nets;
    }
}
