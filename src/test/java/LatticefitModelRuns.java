import java.util.ArrayDeque;
import java.util.ArrayList;
import java.util.Comparator;
import java.util.HashMap;
import java.util.HashSet;
import java.util.LinkedHashSet;
import java.util.List;
import java.util.Map;
import java.util.NoSuchElementException;
import java.util.Random;
import java.util.Set;
import java.util.TreeMap;
import java.util.TreeSet;

/**
 * Long runs of calls on Latticefit and on a second writing of the document, which is slow and keeps
 * sets and maps of everything; each answer and each exception of both must be the same.
 */
public final class LatticefitModelRuns {
    private static final int RUNS = 100;
    // Runs that only map are quick, and it takes many until the seventh best cut would matter.
    private static final int MAPPED_RUNS = 3000;
    private static final int CALLS = 500;

    // 8 registers and 40 gates that need more than 36 blocks, found by random changes.
    private static final int[][] WIDE = {
        {3, 6}, {2, 6}, {8, 1}, {4, 1}, {5, 1}, {10, 1}, {9, 0}, {2, 4}, {11, 14}, {16, 11},
        {7, 2}, {17, 9}, {4, 9}, {1, 12}, {18, 2}, {0, 13}, {15, 13}, {18, 2}, {10, 18}, {26, 19},
        {10, 4}, {1, 26}, {29, 29}, {5, 15}, {13, 3}, {6, 24}, {16, 29}, {25, 33}, {24, 20},
        {3, 26}, {7, 27}, {23, 37}, {6, 17}, {13, 31}, {28, 22}, {33, 3}, {41, 35}, {27, 42},
        {16, 39}, {36, 46}};
    private static final int[] WIDE_FEEDERS = {0, 17, 2, 3, 4, 5, 24, 7};
    private static final int[] WIDE_OUTPUTS = {47, 30, 45, 44, 34, 12};

    public static void main(String[] args) {
        int runs = args.length > 0 ? Integer.parseInt(args[0]) : RUNS;
        int firstSeed = args.length > 1 ? Integer.parseInt(args[1]) : 1;
        Map<String, Integer> answered = new TreeMap<>();
        for (int seed = firstSeed; seed < firstSeed + runs; seed++) {
            if (!new Run(seed, answered).agrees()) {
                System.exit(1);
            }
        }
        for (int seed = firstSeed; seed < firstSeed + MAPPED_RUNS; seed++) {
            if (!new Run(seed, answered).mapsAlike()) {
                System.exit(1);
            }
        }
        if (args.length > 2) {
            answered.forEach((call, count) -> System.out.println(count + " " + call));
        }
        System.out.println(runs + " runs agree with the model");
    }

    /** One call with the answers of both. */
    private interface Call {
        Object of(Latticefit x);
    }

    private interface ModelCall {
        Object of(Model m);
    }

    private static final class Run {
        private final Random random;
        private final int seed;
        private final Latticefit real = new Latticefit();
        private final Model model = new Model();
        private final StringBuilder log = new StringBuilder();
        private final Map<String, Integer> answered;
        private int calls;
        private boolean isWrong;
        private boolean didThrow;

        Run(int seed, Map<String, Integer> answered) {
            this.seed = seed;
            this.random = new Random(seed);
            this.answered = answered;
        }

        boolean agrees() {
            early();
            int shape = random.nextInt(10);
            if (shape == 0) {
                wideCircuit();
            } else if (shape < 7) {
                wholeCircuit();
            } else {
                circuit(3 + random.nextInt(46));
            }
            while (calls < CALLS && !isWrong) {
                int luck = random.nextInt(100);
                if (luck < 1) {
                    circuit(1 + random.nextInt(4));
                } else if (luck < 30) {
                    forward();
                } else if (luck < 34) {
                    backward();
                } else if (luck < 80) {
                    ask();
                } else {
                    runChip();
                }
            }
            return !isWrong;
        }

        /** A circuit of gates that come together again and again, mapped, with all its blocks. */
        boolean mapsAlike() {
            int sources = 2 + random.nextInt(5);
            for (int i = 0; i < sources; i++) {
                does("addInput()", x -> x.addInput(), m -> m.addInput());
            }
            int gates = 5 + random.nextInt(44 - sources);
            int near = 3 + random.nextInt(10);
            for (int i = 0; i < gates; i++) {
                char kind = "aoxn".charAt(random.nextInt(random.nextInt(3) == 0 ? 4 : 3));
                int top = sources + i;
                int first = top - 1 - random.nextInt(Math.min(top, near));
                int reach = random.nextBoolean() ? Math.min(top, near) : top;
                int second = top - 1 - random.nextInt(reach);
                does("addGate('" + kind + "', " + first + ", " + second + ")",
                        x -> x.addGate(kind, first, second), m -> m.addGate(kind, first, second));
            }
            for (int i = 0; i < 6; i++) {
                int node = sources + gates - 1 - i % gates;
                does("addOutput(" + node + ")", x -> x.addOutput(node), m -> m.addOutput(node));
            }
            does("map()", x -> x.map(), m -> m.map());
            for (int i = 0; i < model.nodes.size() && model.isMapped; i++) {
                int node = i;
                does("depth(" + i + ")", x -> x.depth(node), m -> m.depth(node));
                does("isNeeded(" + i + ")", x -> x.isNeeded(node), m -> m.isNeeded(node));
            }
            for (int i = 0; i < model.blocks.size(); i++) {
                askBlock(i);
            }
            return !isWrong;
        }

        private void askBlock(int block) {
            does("word(" + block + ")", x -> x.word(block), m -> m.word(block));
            does("gateOf(" + block + ")", x -> x.gateOf(block), m -> m.gateOf(block));
            for (int i = 0; i < 5; i++) {
                int index = i;
                does("inputOf(" + block + ", " + i + ")",
                        x -> x.inputOf(block, index), m -> m.inputOf(block, index));
            }
        }

        private void early() {
            for (int i = random.nextInt(4); i > 0; i--) {
                if (random.nextBoolean()) {
                    ask();
                } else {
                    forward();
                }
            }
        }

        private int wild(int bound) {
            int luck = random.nextInt(40);
            if (luck == 0) {
                return -1 - random.nextInt(3);
            }
            if (luck == 1) {
                return bound + random.nextInt(3);
            }
            if (luck == 2) {
                return random.nextBoolean() ? Integer.MIN_VALUE : Integer.MAX_VALUE;
            }
            return bound > 0 ? random.nextInt(bound) : 0;
        }

        private int node() {
            int count = model.nodes.size();
            if (count > 3 && random.nextInt(3) > 0) {
                return count - 1 - random.nextInt(Math.min(count, 12));
            }
            return wild(count);
        }

        private void circuit(int steps) {
            int gates = 1 + random.nextInt(8);
            for (int i = 0; i < steps && !isWrong; i++) {
                int luck = random.nextInt(gates + 5);
                if (luck == 0) {
                    does("addInput()", x -> x.addInput(), m -> m.addInput());
                } else if (luck == 1) {
                    boolean isOne = random.nextBoolean();
                    int clock = wild(3);
                    does("addRegister(" + isOne + ", " + clock + ")",
                            x -> x.addRegister(isOne, clock), m -> m.addRegister(isOne, clock));
                } else if (luck == 2) {
                    feedOne();
                } else if (luck == 3) {
                    int node = node();
                    does("addOutput(" + node + ")", x -> x.addOutput(node), m -> m.addOutput(node));
                } else {
                    gate();
                }
            }
        }

        /** About as many blocks as there are cells, now and then more. */
        private void wideCircuit() {
            for (int i = 0; i < 8; i++) {
                int clock = random.nextInt(3);
                does("addRegister(true, " + clock + ")",
                        x -> x.addRegister(true, clock), m -> m.addRegister(true, clock));
            }
            int changed = random.nextInt(8);
            for (int i = 0; i < WIDE.length; i++) {
                char kind = "aox".charAt(random.nextInt(3));
                int first = random.nextInt(40) < changed ? random.nextInt(8 + i) : WIDE[i][0];
                int second = WIDE[i][1];
                does("addGate('" + kind + "', " + first + ", " + second + ")",
                        x -> x.addGate(kind, first, second), m -> m.addGate(kind, first, second));
            }
            for (int i = 0; i < 8; i++) {
                int register = i;
                does("feed(" + i + ", " + WIDE_FEEDERS[i] + ")",
                        x -> x.feed(register, WIDE_FEEDERS[register]),
                        m -> m.feed(register, WIDE_FEEDERS[register]));
            }
            for (int i = random.nextInt(3); i < 6; i++) {
                int node = WIDE_OUTPUTS[i];
                does("addOutput(" + node + ")", x -> x.addOutput(node), m -> m.addOutput(node));
            }
        }

        private void wholeCircuit() {
            int registers = random.nextInt(9);
            for (int i = random.nextInt(7); i > 0; i--) {
                does("addInput()", x -> x.addInput(), m -> m.addInput());
            }
            for (int i = 0; i < registers; i++) {
                boolean isOne = random.nextBoolean();
                int clock = random.nextInt(3);
                does("addRegister(" + isOne + ", " + clock + ")",
                        x -> x.addRegister(isOne, clock), m -> m.addRegister(isOne, clock));
            }
            int sources = model.nodes.size();
            int gates = random.nextInt(3) == 0 ? 40 : random.nextInt(41);
            for (int i = 0; i < gates; i++) {
                gate();
                if (random.nextInt(3) == 0 && model.ofKind('r').size() > 0) {
                    feedOne();
                }
            }
            for (int i = sources > 0 ? 1 + random.nextInt(6) : 0; i > 0; i--) {
                int node = node();
                does("addOutput(" + node + ")", x -> x.addOutput(node), m -> m.addOutput(node));
            }
        }

        private void feedOne() {
            List<Integer> registers = model.ofKind('r');
            int register = registers.isEmpty() || random.nextInt(10) == 0
                    ? wild(model.nodes.size()) : registers.get(random.nextInt(registers.size()));
            int node = node();
            does("feed(" + register + ", " + node + ")",
                    x -> x.feed(register, node), m -> m.feed(register, node));
        }

        private void gate() {
            char kind = random.nextInt(30) == 0 ? "rib\u00e9A".charAt(random.nextInt(5))
                    : "aoxn".charAt(random.nextInt(random.nextInt(3) == 0 ? 4 : 3));
            int first = node();
            int second = node();
            does("addGate('" + kind + "', " + first + ", " + second + ")",
                    x -> x.addGate(kind, first, second), m -> m.addGate(kind, first, second));
        }

        private void forward() {
            if (!model.isMapped) {
                if (model.outputs.size() < 3) {
                    int node = node();
                    does("addOutput(" + node + ")", x -> x.addOutput(node), m -> m.addOutput(node));
                }
                does("map()", x -> x.map(), m -> m.map());
                for (int i = random.nextInt(4); i > 0; i--) {
                    place();
                }
            } else if (!model.isRouted) {
                int tries = random.nextInt(4);
                for (int i = 0; i < tries; i++) {
                    place();
                }
                int rounds = random.nextInt(3) == 0 ? wild(20) + 1 : 20;
                does("route(" + rounds + ")", x -> x.route(rounds), m -> m.route(rounds));
            } else if (!model.isBuilt) {
                does("build()", x -> x.build(), m -> m.build());
            } else if (!model.isStarted || random.nextInt(12) == 0) {
                does("start()", x -> x.start(), m -> m.start());
            } else {
                runChip();
            }
        }

        private void place() {
            if (random.nextInt(3) == 0) {
                int block = wild(model.blocks.size());
                int cell = wild(36);
                does("fix(" + block + ", " + cell + ")",
                        x -> x.fix(block, cell), m -> m.fix(block, cell));
            } else {
                int seed = random.nextInt(20) == 0 ? -1 : random.nextInt() & Integer.MAX_VALUE;
                int steps = wild(200) + 1;
                int heat = wild(random.nextInt(2) == 0 ? 50 : 5) + 1;
                does("anneal(" + seed + ", " + steps + ", " + heat + ")",
                        x -> x.anneal(seed, steps, heat), m -> m.anneal(seed, steps, heat));
            }
        }

        private void backward() {
            int luck = random.nextInt(4);
            if (luck == 0) {
                place();
            } else if (luck == 1) {
                int rounds = 1 + random.nextInt(20);
                does("route(" + rounds + ")", x -> x.route(rounds), m -> m.route(rounds));
            } else if (luck == 2) {
                does("map()", x -> x.map(), m -> m.map());
            } else {
                does("build()", x -> x.build(), m -> m.build());
            }
        }

        private void ask() {
            if (random.nextBoolean()) {
                askMapped();
            } else {
                askRouted();
            }
        }

        private void askMapped() {
            int node = wild(model.nodes.size());
            int block = wild(model.blocks.size());
            int index = wild(4);
            switch (random.nextInt(10)) {
                case 0 -> does("kindOf(" + node + ")", x -> x.kindOf(node), m -> m.kindOf(node));
                case 1 -> does("depth(" + node + ")", x -> x.depth(node), m -> m.depth(node));
                case 2 -> does("isNeeded(" + node + ")",
                        x -> x.isNeeded(node), m -> m.isNeeded(node));
                case 3 -> does("word(" + block + ")", x -> x.word(block), m -> m.word(block));
                case 4 -> does("inputOf(" + block + ", " + index + ")",
                        x -> x.inputOf(block, index), m -> m.inputOf(block, index));
                case 5 -> does("gateOf(" + block + ")", x -> x.gateOf(block), m -> m.gateOf(block));
                case 6 -> does("registerOf(" + block + ")",
                        x -> x.registerOf(block), m -> m.registerOf(block));
                case 7 -> does("cellOf(" + block + ")", x -> x.cellOf(block), m -> m.cellOf(block));
                case 8 -> does("cost()", x -> x.cost(), m -> m.cost());
                default -> does("excess()", x -> x.excess(), m -> m.excess());
            }
        }

        private void askRouted() {
            int node = wild(model.nodes.size());
            int edge = wild(84);
            int frame = wild(14);
            int index = wild(random.nextInt(2) == 0 ? 36 : 12);
            int wired = model.someWire(node, random);
            switch (random.nextInt(11)) {
                case 0 -> does("isRouted()", x -> x.isRouted(), m -> m.isRouted);
                case 1, 2 -> does("netsOn(" + edge + ")", x -> x.netsOn(edge), m -> m.netsOn(edge));
                case 3 -> does("wireOf(" + node + ", " + edge + ")",
                        x -> x.wireOf(node, edge), m -> m.wireOf(node, edge));
                case 4 -> does("wireOf(" + node + ", " + wired + ")",
                        x -> x.wireOf(node, wired), m -> m.wireOf(node, wired));
                case 5 -> does("timeOf(" + node + ")", x -> x.timeOf(node), m -> m.timeOf(node));
                case 6 -> does("slowest()", x -> x.slowest(), m -> m.slowest());
                case 7 -> does("worstStretch()", x -> x.worstStretch(), m -> m.worstStretch());
                case 8 -> does("fill()", x -> x.fill(), m -> m.fill());
                case 9 -> does("wordAt(" + frame + ", " + index + ")",
                        x -> x.wordAt(frame, index), m -> m.wordAt(frame, index));
                default -> does("check(" + frame + ")", x -> x.check(frame), m -> m.check(frame));
            }
        }

        private void runChip() {
            int number = wild(6);
            int cell = someCell();
            int index = random.nextBoolean() ? 0 : wild(4);
            int clock = wild(3);
            int frame = wild(14);
            boolean value = random.nextBoolean();
            switch (random.nextInt(13)) {
                case 0, 1 -> does("setInput(" + number + ", " + value + ")",
                        x -> x.setInput(number, value), m -> m.setInput(number, value));
                case 2, 3 -> does("tick(" + clock + ")", x -> x.tick(clock), m -> m.tick(clock));
                case 4 -> does("circuitOutput(" + number + ")",
                        x -> x.circuitOutput(number), m -> m.circuitOutput(number));
                case 5 -> does("chipOutput(" + number + ")",
                        x -> x.chipOutput(number), m -> m.chipOutput(number));
                case 6 -> does("chipRegister(" + cell + ")",
                        x -> x.chipRegister(cell), m -> m.chipRegister(cell));
                case 7, 8 -> does("sourceOf(" + cell + ", " + index + ")",
                        x -> x.sourceOf(cell, index), m -> m.sourceOf(cell, index));
                case 9 -> flipOne();
                case 10 -> does("isBad(" + frame + ")", x -> x.isBad(frame), m -> m.isBad(frame));
                case 11 -> does("agrees()", x -> x.agrees(), m -> m.agrees());
                default -> {
                    if (random.nextInt(4) == 0) {
                        does("scrub()", x -> x.scrub(), m -> m.scrub());
                    } else {
                        does("isConsistent()", x -> x.isConsistent(), m -> true);
                    }
                }
            }
        }

        private int someCell() {
            List<Block> blocks = model.blocks;
            return blocks.isEmpty() || random.nextInt(3) == 0
                    ? wild(36) : blocks.get(random.nextInt(blocks.size())).cell;
        }

        private void flipOne() {
            for (int i = random.nextInt(4); i >= 0; i--) {
                int frame = wild(14);
                int index = wild(random.nextInt(2) == 0 ? 36 : 12);
                int bit = wild(random.nextInt(2) == 0 ? 16 : 9);
                for (int j = 0; j < 8 && model.isEmptyWord(frame, index); j++) {
                    frame = random.nextInt(14);
                    index = random.nextInt(36);
                }
                flipWord(frame, index, bit);
            }
        }

        private void flipWord(int frame, int index, int bit) {
            if (!isWrong) {
                does("flip(" + frame + ", " + index + ", " + bit + ")",
                        x -> x.flip(frame, index, bit), m -> m.flip(frame, index, bit));
            }
        }

        private void does(String text, Call call, ModelCall due) {
            if (isWrong || calls >= CALLS) {
                return;
            }
            calls++;
            Object got = answerOf(() -> call.of(real));
            boolean threw = didThrow;
            Object want = answerOf(() -> due.of(model));
            log.append(text).append(" -> ").append(got).append('\n');
            String name = text.substring(0, text.indexOf('('));
            answered.merge(name + (threw ? " " + got : kindOfAnswer(name, got)), 1, Integer::sum);
            if (!got.equals(want)) {
                isWrong = true;
                System.out.println("seed " + seed + ":\n" + log + "due is " + want);
            }
        }

        private String kindOfAnswer(String name, Object got) {
            if (got instanceof Boolean) {
                return " " + got;
            }
            if (name.equals("map")) {
                return " to " + model.blocks.size() / 6 * 6 + " blocks or up to 5 more";
            }
            return name.equals("route") && !model.isRouted ? " without success" : "";
        }

        private interface Answer {
            Object get();
        }

        private Object answerOf(Answer answer) {
            didThrow = false;
            try {
                return answer.get();
            } catch (RuntimeException e) {
                didThrow = true;
                return e.getClass().getName();
            }
        }
    }

    private static final class Node {
        char kind;
        int one;
        int other;
        int feeder;
        boolean isOne;
        int clock;
        int number;
        // found by mapping
        int depth;
        List<TreeSet<Integer>> cuts;
        TreeSet<Integer> own;
        boolean isNeeded;
        Block block;
    }

    private static final class Block {
        int number;
        int gate = -1;
        int register = -1;
        int word;
        List<Integer> inputs = new ArrayList<>();
        int cell;
        boolean isFixed;
    }

    private static final class Net {
        int source;
        TreeSet<Integer> sinks = new TreeSet<>();
        TreeSet<Integer> edges = new TreeSet<>();

        int length() {
            Set<Integer> all = new HashSet<>(sinks);
            all.add(source);
            int left = 9, right = -1, low = 9, high = -1;
            for (int at : all) {
                left = Math.min(left, at / 7);
                right = Math.max(right, at / 7);
                low = Math.min(low, at % 7);
                high = Math.max(high, at % 7);
            }
            return right - left + high - low;
        }
    }

    private static final class Model {
        final List<Node> nodes = new ArrayList<>();
        final List<Integer> outputs = new ArrayList<>();
        List<Block> blocks = new ArrayList<>();
        TreeMap<Integer, Net> nets = new TreeMap<>();
        int[] hadNets = new int[84];
        boolean isMapped, isRouted, isBuilt, isStarted;
        List<List<Integer>> bits;
        List<List<Integer>> chip;
        boolean[] cellRegister;
        boolean[] inputValue;
        Map<Integer, Boolean> registerValue;
        long ticks;

        private static void out(boolean isOut) {
            if (isOut) {
                throw new IndexOutOfBoundsException();
            }
        }

        private static void bad(boolean isBad) {
            if (isBad) {
                throw new IllegalArgumentException();
            }
        }

        private static void state(boolean isFit) {
            if (!isFit) {
                throw new IllegalStateException();
            }
        }

        private static void none(boolean isNone) {
            if (isNone) {
                throw new NoSuchElementException();
            }
        }

        private void node(int node) {
            out(node < 0 || node >= nodes.size());
        }

        List<Integer> ofKind(char kind) {
            List<Integer> found = new ArrayList<>();
            for (int i = 0; i < nodes.size(); i++) {
                if (nodes.get(i).kind == kind) {
                    found.add(i);
                }
            }
            return found;
        }

        private void changed() {
            isMapped = isRouted = isBuilt = isStarted = false;
        }

        private Node put(char kind) {
            changed();
            Node node = new Node();
            node.kind = kind;
            nodes.add(node);
            return node;
        }

        int addInput() {
            state(nodes.size() < 48 && ofKind('i').size() < 6);
            int number = ofKind('i').size();
            put('i').number = number;
            return nodes.size() - 1;
        }

        int addRegister(boolean isOne, int clock) {
            bad(clock < 0 || clock > 2);
            state(nodes.size() < 48 && ofKind('r').size() < 8);
            Node node = put('r');
            node.isOne = isOne;
            node.clock = clock;
            node.feeder = nodes.size() - 1;
            return nodes.size() - 1;
        }

        int addGate(char kind, int one, int other) {
            bad("aoxn".indexOf(kind) < 0);
            node(one);
            if (kind != 'n') {
                node(other);
            }
            state(nodes.size() < 48);
            Node node = put(kind);
            node.one = one;
            node.other = other;
            return nodes.size() - 1;
        }

        int feed(int register, int node) {
            node(register);
            node(node);
            state(nodes.get(register).kind == 'r');
            int before = nodes.get(register).feeder;
            nodes.get(register).feeder = node;
            changed();
            return before;
        }

        int addOutput(int node) {
            node(node);
            state(outputs.size() < 6);
            outputs.add(node);
            changed();
            return outputs.size() - 1;
        }

        char kindOf(int node) {
            node(node);
            return nodes.get(node).kind;
        }

        // ---- mapping

        private boolean isGate(int node) {
            return "aoxn".indexOf(nodes.get(node).kind) >= 0;
        }

        private int depthOfSet(Set<Integer> set) {
            int top = 0;
            for (int node : set) {
                top = Math.max(top, nodes.get(node).depth);
            }
            return 1 + top;
        }

        private static double powers(Set<Integer> set) {
            double sum = 0;
            for (int node : set) {
                sum += Math.pow(2, node);
            }
            return sum;
        }

        private void findCuts(int number) {
            Node node = nodes.get(number);
            node.cuts = new ArrayList<>();
            node.depth = 0;
            node.own = null;
            if (isGate(number)) {
                Set<TreeSet<Integer>> candidates = new LinkedHashSet<>();
                for (TreeSet<Integer> one : nodes.get(node.one).cuts) {
                    List<TreeSet<Integer>> others = node.kind == 'n'
                            ? List.of(new TreeSet<>()) : nodes.get(node.other).cuts;
                    for (TreeSet<Integer> other : others) {
                        TreeSet<Integer> union = new TreeSet<>(one);
                        union.addAll(other);
                        candidates.add(union);
                    }
                }
                candidates.removeIf(set -> set.size() > 4);
                List<TreeSet<Integer>> sorted = new ArrayList<>(candidates);
                sorted.sort(Comparator.<TreeSet<Integer>>comparingInt(this::depthOfSet)
                        .thenComparingInt(Set::size).thenComparingDouble(Model::powers));
                node.depth = sorted.stream().mapToInt(this::depthOfSet).min().getAsInt();
                node.own = sorted.get(0);
                node.cuts.addAll(sorted.subList(0, Math.min(6, sorted.size())));
            }
            node.cuts.add(new TreeSet<>(Set.of(number)));
        }

        private void need(int number) {
            Node node = nodes.get(number);
            if (!isGate(number) || node.isNeeded) {
                return;
            }
            node.isNeeded = true;
            node.own.forEach(this::need);
        }

        private boolean under(int node, Map<Integer, Boolean> given) {
            if (given.containsKey(node)) {
                return given.get(node);
            }
            Node at = nodes.get(node);
            if (at.kind == 'n') {
                return !under(at.one, given);
            }
            boolean one = under(at.one, given);
            boolean other = under(at.other, given);
            return at.kind == 'a' ? one && other : at.kind == 'o' ? one || other : one != other;
        }

        private Block newBlock(List<Block> made) {
            Block block = new Block();
            block.number = made.size();
            block.cell = block.number;
            made.add(block);
            return block;
        }

        private void giveGate(Block block, int gate) {
            block.gate = gate;
            block.inputs.addAll(nodes.get(gate).own);
            for (int k = 0; k < 16; k++) {
                Map<Integer, Boolean> given = new HashMap<>();
                for (int j = 0; j < block.inputs.size(); j++) {
                    given.put(block.inputs.get(j), (k >> j & 1) == 1);
                }
                block.word += under(gate, given) ? 1 << k : 0;
            }
            nodes.get(gate).block = block;
        }

        int map() {
            state(!outputs.isEmpty());
            for (int i = 0; i < nodes.size(); i++) {
                findCuts(i);
                nodes.get(i).isNeeded = false;
                nodes.get(i).block = null;
            }
            outputs.forEach(this::need);
            ofKind('r').forEach(r -> need(nodes.get(r).feeder));
            List<Block> made = new ArrayList<>();
            for (int register : ofKind('r')) {
                Block block = newBlock(made);
                block.register = register;
                nodes.get(register).block = block;
                int feeder = nodes.get(register).feeder;
                if (isGate(feeder) && nodes.get(feeder).block == null) {
                    giveGate(block, feeder);
                } else {
                    block.inputs.add(feeder);
                    block.word = 43690;
                }
            }
            for (int i = 0; i < nodes.size(); i++) {
                if (nodes.get(i).isNeeded && nodes.get(i).block == null) {
                    giveGate(newBlock(made), i);
                }
            }
            if (made.size() > 36) {
                throw new UnsupportedOperationException();
            }
            blocks = made;
            changed();
            isMapped = true;
            hadNets = new int[84];
            nets = new TreeMap<>();
            return made.size();
        }

        int depth(int node) {
            node(node);
            state(isMapped);
            return nodes.get(node).depth;
        }

        boolean isNeeded(int node) {
            node(node);
            state(isMapped);
            return nodes.get(node).isNeeded;
        }

        private Block block(int block) {
            state(isMapped);
            out(block < 0 || block >= blocks.size());
            return blocks.get(block);
        }

        int word(int block) {
            return block(block).word;
        }

        int inputOf(int block, int index) {
            Block at = block(block);
            none(index < 0 || index >= at.inputs.size());
            return at.inputs.get(index);
        }

        int gateOf(int block) {
            none(block(block).gate < 0);
            return block(block).gate;
        }

        int registerOf(int block) {
            none(block(block).register < 0);
            return block(block).register;
        }

        // ---- places

        private Block at(int cell) {
            for (Block block : blocks) {
                if (block.cell == cell) {
                    return block;
                }
            }
            return null;
        }

        private void swap(int one, int other) {
            Block first = at(one);
            Block second = at(other);
            if (first != null) {
                first.cell = other;
            }
            if (second != null) {
                second.cell = one;
            }
        }

        int fix(int block, int cell) {
            out(cell < 0 || cell > 35);
            Block moved = block(block);
            if (moved.isFixed || (at(cell) != null && at(cell).isFixed)) {
                throw new UnsupportedOperationException();
            }
            swap(moved.cell, cell);
            moved.isFixed = true;
            isRouted = isBuilt = isStarted = false;
            return cost();
        }

        int anneal(int seed, int steps, int heat) {
            bad(seed < 0 || steps < 1 || steps > 200 || heat < 1 || heat > 50);
            state(isMapped);
            long chance = seed;
            int swaps = 0;
            for (int step = 0; step < steps; step++) {
                chance = Math.floorMod(chance * 1103515245 + 12345, 1L << 31);
                int one = (int) ((chance >> 16) % 36);
                chance = Math.floorMod(chance * 1103515245 + 12345, 1L << 31);
                int other = (int) ((chance >> 16) % 36);
                int warmth = Math.max(1, heat - step / 8);
                Block first = at(one);
                Block second = at(other);
                if (one == other || (first == null && second == null)
                        || (first != null && first.isFixed) || (second != null && second.isFixed)) {
                    continue;
                }
                int costBefore = cost();
                int excessBefore = excess();
                swap(one, other);
                if (excess() > excessBefore || cost() - costBefore >= warmth) {
                    swap(one, other);
                } else {
                    swaps++;
                    isRouted = isBuilt = isStarted = false;
                }
            }
            return swaps;
        }

        int cellOf(int block) {
            return block(block).cell;
        }

        private static int crossing(int cell) {
            return 7 * (cell / 6) + cell % 6;
        }

        private TreeMap<Integer, Net> findNets() {
            TreeMap<Integer, Net> found = new TreeMap<>();
            for (Block block : blocks) {
                for (int input : block.inputs) {
                    found.computeIfAbsent(input, k -> new Net()).sinks.add(crossing(block.cell));
                }
            }
            for (int j = 0; j < outputs.size(); j++) {
                found.computeIfAbsent(outputs.get(j), k -> new Net()).sinks.add(7 * 6 + j);
            }
            found.forEach((number, net) -> {
                Node node = nodes.get(number);
                net.source = node.kind == 'i' ? node.number : crossing(node.block.cell);
            });
            return found;
        }

        int cost() {
            state(isMapped);
            return findNets().values().stream().mapToInt(Net::length).sum();
        }

        int excess() {
            state(isMapped);
            int sum = 0;
            for (int region = 0; region < 3; region++) {
                Set<Integer> clocks = new HashSet<>();
                for (Block block : blocks) {
                    if (block.register >= 0 && block.cell / 12 == region) {
                        clocks.add(nodes.get(block.register).clock);
                    }
                }
                sum += Math.max(0, clocks.size() - 2);
            }
            return sum;
        }

        // ---- routing

        private static int[] ends(int edge) {
            if (edge < 42) {
                int column = edge / 7;
                int row = edge % 7;
                return new int[] {7 * column + row, 7 * (column + 1) + row};
            }
            int column = (edge - 42) / 6;
            int row = (edge - 42) % 6;
            return new int[] {7 * column + row, 7 * column + row + 1};
        }

        private int count(int edge) {
            int count = 0;
            for (Net net : nets.values()) {
                count += net.edges.contains(edge) ? 1 : 0;
            }
            return count;
        }

        private void layNet(Net net, int[] price, int round) {
            net.edges.clear();
            int[] others = new int[84];
            for (Net other : nets.values()) {
                other.edges.forEach(edge -> others[edge]++);
            }
            TreeSet<Integer> tree = new TreeSet<>(Set.of(net.source));
            for (int sink : net.sinks) {
                if (tree.contains(sink)) {
                    continue;
                }
                Map<Integer, Integer> toll = new HashMap<>();
                Map<Integer, Integer> back = new HashMap<>();
                Set<Integer> done = new HashSet<>();
                tree.forEach(at -> toll.put(at, 0));
                while (!done.contains(sink)) {
                    int best = -1;
                    for (int at = 0; at < 49; at++) {
                        if (toll.containsKey(at) && !done.contains(at)
                                && (best < 0 || toll.get(at) < toll.get(best))) {
                            best = at;
                        }
                    }
                    done.add(best);
                    if (best == sink) {
                        break;
                    }
                    for (int edge = 0; edge < 84; edge++) {
                        int[] ends = ends(edge);
                        if (ends[0] != best && ends[1] != best) {
                            continue;
                        }
                        int next = ends[0] + ends[1] - best;
                        int beyond = Math.max(0, others[edge] + 1 - 2);
                        int sum = toll.get(best) + 1 + price[edge] + 4 * round * beyond;
                        if (!done.contains(next) && (!toll.containsKey(next)
                                || toll.get(next) > sum)) {
                            toll.put(next, sum);
                            back.put(next, edge);
                        }
                    }
                }
                int at = sink;
                while (!tree.contains(at)) {
                    int edge = back.get(at);
                    tree.add(at);
                    net.edges.add(edge);
                    at = ends(edge)[0] + ends(edge)[1] - at;
                }
            }
        }

        boolean isEmptyWord(int frame, int index) {
            return isStarted && (frame < 0 || frame > 13 || index < 0
                    || index >= chip.get(frame).size() || chip.get(frame).get(index) == 0);
        }

        int route(int rounds) {
            bad(rounds < 1 || rounds > 20);
            state(isMapped);
            isRouted = isBuilt = isStarted = false;
            nets = findNets();
            int[] price = new int[84];
            int round = 0;
            while (round < rounds && !isRouted) {
                round++;
                for (Net net : nets.values()) {
                    layNet(net, price, round);
                }
                isRouted = true;
                for (int edge = 0; edge < 84; edge++) {
                    if (count(edge) > 2) {
                        price[edge] += count(edge) - 2;
                        isRouted = false;
                    }
                }
            }
            for (int edge = 0; edge < 84; edge++) {
                hadNets[edge] = count(edge);
            }
            return round;
        }

        int netsOn(int edge) {
            out(edge < 0 || edge > 83);
            return isMapped ? hadNets[edge] : 0;
        }

        int someWire(int node, Random random) {
            Net net = nets.get(node);
            if (net == null || net.edges.isEmpty()) {
                return 0;
            }
            return new ArrayList<>(net.edges).get(random.nextInt(net.edges.size()));
        }

        private int wire(int node, int edge) {
            List<Integer> having = new ArrayList<>();
            nets.forEach((number, net) -> {
                if (net.edges.contains(edge)) {
                    having.add(number);
                }
            });
            return having.indexOf(node);
        }

        int wireOf(int node, int edge) {
            node(node);
            out(edge < 0 || edge > 83);
            state(isRouted);
            none(wire(node, edge) < 0);
            return wire(node, edge);
        }

        /** The edges of the way from the source to a crossing of the tree. */
        private List<Integer> way(Net net, int crossing) {
            Map<Integer, List<Integer>> ways = new HashMap<>();
            ArrayDeque<Integer> open = new ArrayDeque<>();
            ways.put(net.source, new ArrayList<>());
            open.add(net.source);
            while (!open.isEmpty()) {
                int at = open.poll();
                for (int edge : net.edges) {
                    int[] ends = ends(edge);
                    if (ends[0] != at && ends[1] != at) {
                        continue;
                    }
                    int next = ends[0] + ends[1] - at;
                    if (!ways.containsKey(next)) {
                        List<Integer> way = new ArrayList<>(ways.get(at));
                        way.add(edge);
                        ways.put(next, way);
                        open.add(next);
                    }
                }
            }
            return ways.get(crossing);
        }

        private int arrives(int node, int crossing) {
            return time(node) + way(nets.get(node), crossing).size();
        }

        private int time(int node) {
            return isGate(node) ? tableTime(nodes.get(node).block) : 0;
        }

        private int tableTime(Block block) {
            int late = 0;
            for (int input : block.inputs) {
                late = Math.max(late, arrives(input, crossing(block.cell)));
            }
            return 3 + late;
        }

        int timeOf(int node) {
            node(node);
            state(isRouted);
            none(isGate(node) && nodes.get(node).block == null);
            return time(node);
        }

        int slowest() {
            state(isRouted);
            int late = 0;
            for (int j = 0; j < outputs.size(); j++) {
                late = Math.max(late, arrives(outputs.get(j), 42 + j));
            }
            for (Block block : blocks) {
                if (block.register >= 0) {
                    late = Math.max(late, tableTime(block));
                }
            }
            return late;
        }

        double worstStretch() {
            state(isRouted);
            List<Double> all = new ArrayList<>();
            for (Net net : nets.values()) {
                if (net.length() != 0) {
                    all.add((double) net.edges.size() / (double) net.length());
                }
            }
            if (all.isEmpty()) {
                throw new ArithmeticException();
            }
            return all.stream().max(Double::compare).get();
        }

        float fill() {
            state(isRouted);
            return (float) nets.values().stream().mapToInt(net -> net.edges.size()).sum() / 168f;
        }

        // ---- bitstream

        private int sourceCode(int number) {
            Node node = nodes.get(number);
            if (node.kind == 'i') {
                return 300 + node.number;
            }
            return (node.kind == 'r' ? 201 : 200) + 2 * node.block.cell;
        }

        private int wireCode(int node, int edge) {
            return 1 + 2 * edge + wire(node, edge);
        }

        private int codeFor(int node, int crossing) {
            List<Integer> way = way(nets.get(node), crossing);
            return way.isEmpty() ? sourceCode(node) : wireCode(node, way.get(way.size() - 1));
        }

        int build() {
            state(isRouted);
            Map<Integer, Integer> wireWords = new HashMap<>();
            nets.forEach((node, net) -> {
                for (int sink : net.sinks) {
                    List<Integer> way = way(net, sink);
                    for (int i = 0; i < way.size(); i++) {
                        wireWords.put(wireCode(node, way.get(i)),
                                i == 0 ? sourceCode(node) : wireCode(node, way.get(i - 1)));
                    }
                }
            });
            bits = new ArrayList<>();
            for (int column = 0; column < 6; column++) {
                List<Integer> frame = new ArrayList<>();
                for (int row = 0; row < 6; row++) {
                    frame.addAll(cellWords(at(6 * column + row)));
                }
                bits.add(frame);
            }
            for (int column = 0; column < 7; column++) {
                List<Integer> frame = new ArrayList<>();
                for (int edge = 0; edge < 84; edge++) {
                    if (Math.min(ends(edge)[0], ends(edge)[1]) / 7 == column) {
                        frame.add(wireWords.getOrDefault(1 + 2 * edge, 0));
                        frame.add(wireWords.getOrDefault(2 + 2 * edge, 0));
                    }
                }
                bits.add(frame);
            }
            List<Integer> last = new ArrayList<>();
            for (int j = 0; j < 6; j++) {
                last.add(j < outputs.size() ? codeFor(outputs.get(j), 42 + j) : 0);
            }
            bits.add(last);
            isBuilt = true;
            isStarted = false;
            return (int) bits.stream().flatMap(List::stream).filter(word -> word != 0).count();
        }

        private List<Integer> cellWords(Block block) {
            List<Integer> words = new ArrayList<>(List.of(0, 0, 0, 0, 0, 0));
            if (block == null) {
                return words;
            }
            words.set(0, block.word);
            for (int i = 0; i < block.inputs.size(); i++) {
                words.set(1 + i, codeFor(block.inputs.get(i), crossing(block.cell)));
            }
            if (block.register >= 0) {
                Node node = nodes.get(block.register);
                words.set(5, 1 + (node.isOne ? 2 : 0) + 4 * node.clock);
            }
            return words;
        }

        int wordAt(int frame, int index) {
            out(frame < 0 || frame > 13);
            state(isBuilt);
            none(index < 0 || index >= bits.get(frame).size());
            return bits.get(frame).get(index);
        }

        private static int checkOf(List<Integer> frame) {
            long check = 1;
            for (int word : frame) {
                check = (check * 31 + word) % 65521;
            }
            return (int) check;
        }

        int check(int frame) {
            out(frame < 0 || frame > 13);
            state(isBuilt);
            return checkOf(bits.get(frame));
        }

        // ---- chip

        int start() {
            state(isBuilt);
            chip = new ArrayList<>();
            bits.forEach(frame -> chip.add(new ArrayList<>(frame)));
            cellRegister = new boolean[36];
            inputValue = new boolean[6];
            registerValue = new HashMap<>();
            ticks = 0;
            for (int register : ofKind('r')) {
                registerValue.put(register, nodes.get(register).isOne);
                cellRegister[nodes.get(register).block.cell] = nodes.get(register).isOne;
            }
            isStarted = true;
            return outputs.size();
        }

        boolean setInput(int input, boolean value) {
            out(input < 0 || input >= ofKind('i').size());
            state(isStarted);
            boolean before = inputValue[input];
            inputValue[input] = value;
            return before;
        }

        private boolean value(int node) {
            Map<Integer, Boolean> given = new HashMap<>(registerValue);
            ofKind('i').forEach(i -> given.put(i, inputValue[nodes.get(i).number]));
            for (int i = 0; i <= node; i++) {
                given.put(i, under(i, given));
            }
            return given.get(node);
        }

        private int wireWord(int code) {
            int edge = (code - 1) / 2;
            int column = Math.min(ends(edge)[0], ends(edge)[1]) / 7;
            int index = 0;
            for (int before = 0; before < edge; before++) {
                index += Math.min(ends(before)[0], ends(before)[1]) / 7 == column ? 2 : 0;
            }
            return chip.get(6 + column).get(index + (code - 1) % 2);
        }

        private int last(int code) {
            int at = code;
            for (int i = 0; i < 200 && at >= 1 && at <= 168; i++) {
                at = wireWord(at);
            }
            return at >= 1 && at <= 168 ? 0 : at;
        }

        private boolean codeValue(int end, boolean[] tables) {
            if (end >= 300 && end < 300 + ofKind('i').size()) {
                return inputValue[end - 300];
            }
            if (end >= 200 && end < 272) {
                int cell = (end - 200) / 2;
                return end % 2 == 0 ? tables[cell] : cellRegister[cell];
            }
            return false;
        }

        private boolean[] tables() {
            int[][] ends = new int[36][4];
            for (int cell = 0; cell < 36; cell++) {
                for (int i = 0; i < 4; i++) {
                    ends[cell][i] = last(chip.get(cell / 6).get(6 * (cell % 6) + 1 + i));
                }
            }
            boolean[] now = new boolean[36];
            for (int time = 0; time < 40; time++) {
                boolean[] next = new boolean[36];
                for (int cell = 0; cell < 36; cell++) {
                    int k = 0;
                    for (int i = 0; i < 4; i++) {
                        k += codeValue(ends[cell][i], now) ? 1 << i : 0;
                    }
                    next[cell] = (chip.get(cell / 6).get(6 * (cell % 6)) >> k) % 2 == 1;
                }
                now = next;
            }
            return now;
        }

        long tick(int clock) {
            bad(clock < 0 || clock > 2);
            state(isStarted);
            Map<Integer, Boolean> next = new HashMap<>(registerValue);
            for (int register : ofKind('r')) {
                if (nodes.get(register).clock == clock) {
                    next.put(register, value(nodes.get(register).feeder));
                }
            }
            registerValue = next;
            boolean[] tables = tables();
            for (int cell = 0; cell < 36; cell++) {
                int word = chip.get(cell / 6).get(6 * (cell % 6) + 5);
                if (word % 2 == 1 && word / 4 % 4 == clock) {
                    cellRegister[cell] = tables[cell];
                }
            }
            return ++ticks;
        }

        private void output(int output) {
            out(output < 0 || output >= outputs.size());
            state(isStarted);
        }

        boolean circuitOutput(int output) {
            output(output);
            return value(outputs.get(output));
        }

        boolean chipOutput(int output) {
            output(output);
            return codeValue(last(chip.get(13).get(output)), tables());
        }

        boolean chipRegister(int cell) {
            out(cell < 0 || cell > 35);
            state(isStarted);
            return cellRegister[cell];
        }

        int sourceOf(int cell, int index) {
            out(cell < 0 || cell > 35 || index < 0 || index > 3);
            state(isStarted);
            int end = last(chip.get(cell / 6).get(6 * (cell % 6) + 1 + index));
            if (end >= 300 && end < 300 + ofKind('i').size()) {
                return ofKind('i').get(end - 300);
            }
            none(end < 200 || end > 271);
            Block block = at((end - 200) / 2);
            none(block == null);
            int node = end % 2 == 0 ? block.gate : block.register;
            none(node < 0);
            return node;
        }

        int flip(int frame, int index, int bit) {
            out(frame < 0 || frame > 13 || bit < 0 || bit > 15);
            state(isStarted);
            none(index < 0 || index >= chip.get(frame).size());
            chip.get(frame).set(index, chip.get(frame).get(index) ^ (1 << bit));
            return chip.get(frame).get(index);
        }

        boolean isBad(int frame) {
            out(frame < 0 || frame > 13);
            state(isStarted);
            return checkOf(chip.get(frame)) != checkOf(bits.get(frame));
        }

        int scrub() {
            state(isStarted);
            int loaded = 0;
            for (int frame = 0; frame < 14; frame++) {
                if (isBad(frame)) {
                    chip.set(frame, new ArrayList<>(bits.get(frame)));
                    loaded++;
                }
            }
            return loaded;
        }

        boolean agrees() {
            state(isStarted);
            for (int j = 0; j < outputs.size(); j++) {
                if (circuitOutput(j) != chipOutput(j)) {
                    return false;
                }
            }
            for (int register : ofKind('r')) {
                if (registerValue.get(register)
                        != cellRegister[nodes.get(register).block.cell]) {
                    return false;
                }
            }
            return true;
        }
    }
}
