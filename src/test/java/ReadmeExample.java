import java.util.NoSuchElementException;

/** What README.md says: its example call by call, what leads back, and what is refused. */
public final class ReadmeExample {
    private static final Class<?> INDEX = IndexOutOfBoundsException.class;
    private static final Class<?> STATE = IllegalStateException.class;
    private static final Class<?> ARGUMENT = IllegalArgumentException.class;
    private static final Class<?> NONE = NoSuchElementException.class;
    private static final Class<?> UNSUPPORTED = UnsupportedOperationException.class;

    private static int asked;
    private static int wrong;

    private interface Call {
        Object of();
    }

    private static void due(String call, Object want, Call made) {
        Object got;
        try {
            got = made.of();
        } catch (RuntimeException e) {
            got = e.getClass();
        }
        asked++;
        if (!want.equals(got)) {
            wrong++;
            System.out.println(call + " answered " + got + ", due is " + want);
        }
    }

    public static void main(String[] args) {
        example();
        leadsBack();
        outOfRange();
        notThere();
        fullCircuits();
        fixedBlocks();
        nothingToFind();
        firstInTheList();
        System.out.println((asked - wrong) + " of " + asked + " answers are as due");
        if (wrong > 0) {
            System.exit(1);
        }
    }

    private static Latticefit circuit() {
        Latticefit x = new Latticefit();
        x.addInput();
        x.addInput();
        x.addRegister(false, 0);
        x.addGate('x', 0, 1);
        x.feed(2, 3);
        x.addOutput(3);
        x.addOutput(2);
        return x;
    }

    private static Latticefit started() {
        Latticefit x = circuit();
        x.map();
        x.fix(0, 14);
        x.route(20);
        x.build();
        x.start();
        return x;
    }

    private static void example() {
        Latticefit x = new Latticefit();
        due("addInput()", 0, x::addInput);
        due("addInput()", 1, x::addInput);
        due("addRegister(false, 0)", 2, () -> x.addRegister(false, 0));
        due("addGate('x', 0, 1)", 3, () -> x.addGate('x', 0, 1));
        due("feed(2, 3)", 2, () -> x.feed(2, 3));
        due("addOutput(3)", 0, () -> x.addOutput(3));
        due("addOutput(2)", 1, () -> x.addOutput(2));
        due("map()", 1, x::map);
        due("fix(0, 14)", 18, () -> x.fix(0, 14));
        due("anneal(1, 100, 9)", 0, () -> x.anneal(1, 100, 9));
        due("route(20)", 1, () -> x.route(20));
        due("isRouted()", true, x::isRouted);
        due("slowest()", 13, x::slowest);
        due("build()", 24, x::build);
        due("start()", 2, x::start);
        due("setInput(0, true)", false, () -> x.setInput(0, true));
        due("chipOutput(0)", true, () -> x.chipOutput(0));
        due("circuitOutput(0)", true, () -> x.circuitOutput(0));
        due("tick(0)", 1L, () -> x.tick(0));
        due("chipOutput(1)", true, () -> x.chipOutput(1));
        due("flip(13, 0, 0)", 70, () -> x.flip(13, 0, 0));
        due("isBad(13)", true, () -> x.isBad(13));
        due("agrees()", false, x::agrees);
        due("scrub()", 1, x::scrub);
        due("agrees()", true, x::agrees);
    }

    private static void leadsBack() {
        Latticefit x = started();
        due("build() behind start()", 24, x::build);
        due("agrees(), not started anew", STATE, x::agrees);
        due("check(13) is there", true, () -> x.check(13) > 0);
        due("route(20) behind build()", 1, () -> x.route(20));
        due("check(13), not built anew", STATE, () -> x.check(13));
        due("slowest()", 13, x::slowest);
        due("map() behind route()", 1, x::map);
        due("slowest(), not routed anew", STATE, x::slowest);
        due("cost() is there", true, () -> x.cost() > 0);
        due("addOutput(3)", 2, () -> x.addOutput(3));
        due("cost(), not mapped anew", STATE, x::cost);
        due("isRouted()", false, x::isRouted);
        due("netsOn(0)", 0, () -> x.netsOn(0));
        due("isConsistent()", true, x::isConsistent);
    }

    private static void outOfRange() {
        Latticefit x = started();
        due("addRegister(true, 3)", ARGUMENT, () -> x.addRegister(true, 3));
        due("addRegister(true, -1)", ARGUMENT, () -> x.addRegister(true, -1));
        due("addGate('i', 0, 1)", ARGUMENT, () -> x.addGate('i', 0, 1));
        due("anneal(-1, 1, 1)", ARGUMENT, () -> x.anneal(-1, 1, 1));
        due("anneal(0, 0, 1)", ARGUMENT, () -> x.anneal(0, 0, 1));
        due("anneal(0, 201, 1)", ARGUMENT, () -> x.anneal(0, 201, 1));
        due("anneal(0, 1, 0)", ARGUMENT, () -> x.anneal(0, 1, 0));
        due("anneal(0, 1, 51)", ARGUMENT, () -> x.anneal(0, 1, 51));
        due("route(0)", ARGUMENT, () -> x.route(0));
        due("route(21)", ARGUMENT, () -> x.route(21));
        due("tick(3)", ARGUMENT, () -> x.tick(3));
        due("agrees(), as nothing changed", true, x::agrees);
        due("tick(0), the first one", 1L, () -> x.tick(0));
    }

    private static void notThere() {
        Latticefit x = started();
        due("kindOf(4)", INDEX, () -> x.kindOf(4));
        due("word(1)", INDEX, () -> x.word(1));
        due("chipRegister(36)", INDEX, () -> x.chipRegister(36));
        due("netsOn(84)", INDEX, () -> x.netsOn(84));
        due("check(14)", INDEX, () -> x.check(14));
        due("flip(0, 0, 16)", INDEX, () -> x.flip(0, 0, 16));
        due("setInput(2, true)", INDEX, () -> x.setInput(2, true));
        due("chipOutput(2)", INDEX, () -> x.chipOutput(2));
        due("sourceOf(14, 4)", INDEX, () -> x.sourceOf(14, 4));
        due("word(1), not mapped", STATE, () -> circuit().word(1));
        due("agrees(), as nothing changed", true, x::agrees);
    }

    private static void fullCircuits() {
        Latticefit x = new Latticefit();
        due("map() without an output", STATE, x::map);
        for (int i = 0; i < 6; i++) {
            x.addInput();
            x.addOutput(0);
        }
        due("addInput(), the seventh", STATE, x::addInput);
        due("addOutput(0), the seventh", STATE, () -> x.addOutput(0));
        for (int i = 0; i < 8; i++) {
            x.addRegister(false, 0);
        }
        due("addRegister(false, 0), the ninth", STATE, () -> x.addRegister(false, 0));
        due("feed(0, 1), of an input", STATE, () -> x.feed(0, 1));
        for (int i = 0; i < 34; i++) {
            x.addGate('n', i, 0);
        }
        due("addGate('n', 0, 0), the node 48", STATE, () -> x.addGate('n', 0, 0));
        due("kindOf(48)", INDEX, () -> x.kindOf(48));
    }

    private static void fixedBlocks() {
        Latticefit x = circuit();
        x.addGate('a', 0, 1);
        x.addOutput(4);
        due("map()", 2, x::map);
        due("fix(0, 14) is allowed", true, () -> x.fix(0, 14) > 0);
        due("fix(0, 15), which is fixed", UNSUPPORTED, () -> x.fix(0, 15));
        due("fix(1, 14), where one is fixed", UNSUPPORTED, () -> x.fix(1, 14));
        due("cellOf(1)", 1, () -> x.cellOf(1));
    }

    private static void nothingToFind() {
        Latticefit x = started();
        due("inputOf(0, 2)", NONE, () -> x.inputOf(0, 2));
        due("wireOf(0, 83)", NONE, () -> x.wireOf(0, 83));
        due("wordAt(13, 6)", NONE, () -> x.wordAt(13, 6));
        due("flip(12, 12, 0)", NONE, () -> x.flip(12, 12, 0));
        due("sourceOf(14, 2)", NONE, () -> x.sourceOf(14, 2));
        due("sourceOf(14, 1)", 1, () -> x.sourceOf(14, 1));
        Latticefit y = circuit();
        y.feed(2, 0);
        y.addGate('n', 3, 3);
        y.map();
        y.route(20);
        due("gateOf(0), which passes on", NONE, () -> y.gateOf(0));
        due("registerOf(1)", NONE, () -> y.registerOf(1));
        due("timeOf(4), without a table", NONE, () -> y.timeOf(4));
    }

    private static void firstInTheList() {
        Latticefit x = new Latticefit();
        due("addGate('?', 9, 9)", ARGUMENT, () -> x.addGate('?', 9, 9));
        due("feed(0, 0) of no node", INDEX, () -> x.feed(0, 0));
        due("flip(14, 99, 0)", INDEX, () -> x.flip(14, 99, 0));
        due("flip(13, 99, 0)", STATE, () -> x.flip(13, 99, 0));
        due("route(0)", ARGUMENT, () -> x.route(0));
        due("fix(0, 36)", INDEX, () -> x.fix(0, 36));
        due("fix(99, 0)", STATE, () -> x.fix(99, 0));
    }
}
