import java.util.NoSuchElementException;
import java.util.Random;

/** Runs of random calls, each answer held against Reference; the seeds are fixed, so each run is always the same. */
public final class RandomRunsTest {
    private static final int RUNS = 700;
    private static final int CALLS = 512;

    private final Checks checks = new Checks();
    private final Random random;
    private final String name;
    private final TableMapper mapper = new TableMapper();
    private final Reference reference = new Reference();
    private final int mostNodes;
    private final int tellShare;
    private final int backShare;

    private RandomRunsTest(int run) {
        name = "random run " + run;
        random = new Random(run);
        mostNodes = run % 4 == 0 ? 41 : 6 + random.nextInt(12);
        tellShare = 3 + random.nextInt(20);
        backShare = random.nextInt(4);
    }

    public static void main(String[] args) {
        int wrongRuns = 0;
        long made = 0;
        for (int run = 0; run < RUNS; run++) {
            RandomRunsTest test = new RandomRunsTest(run);
            made += test.run();
            wrongRuns += test.checks.anyWrong() ? 1 : 0;
        }
        System.out.println(RUNS + " random runs, " + made + " calls, " + wrongRuns + " runs wrong");
        if (wrongRuns != 0) {
            System.exit(1);
        }
    }

    /** Each step is one call of the mapper, so that it has no more of them than the document speaks of. */
    private int run() {
        int k = 3 + random.nextInt(4);
        due("inputs(" + k + ")", mapper.inputs(k), reference.inputs(k));
        for (int i = 1; i < CALLS; i++) {
            if (random.nextInt(100) < tellShare && reference.count(0) < mostNodes || i < 4) {
                tell();
            } else if (random.nextInt(100) < 12) {
                change();
            } else {
                ask();
            }
            if (checks.anyWrong()) {
                return i;
            }
        }
        return CALLS;
    }

    private void due(String call, long got, long want) {
        checks.due(name + ": " + call, got, want);
    }

    private int anyNode() {
        int n = reference.count(0);
        return random.nextInt(20) == 0 ? random.nextInt(46) - 3 : n == 0 ? 0 : random.nextInt(n);
    }

    /** Often one of the newest, so that networks grow deep. */
    private int source() {
        int n = reference.count(0);
        return random.nextInt(4) < backShare && n > 4 ? n - 1 - random.nextInt(4) : anyNode();
    }

    private void tell() {
        int which = random.nextInt(20);
        if (which < 3) {
            due("input()", mapper.input(), reference.input());
        } else if (which < 5) {
            due("register()", mapper.register(), reference.register());
        } else {
            int kind = random.nextInt(40) == 0 ? random.nextInt(12) - 3 : random.nextInt(7);
            int a = source();
            int b = source();
            int c = source();
            due("gate(" + kind + ", " + a + ", " + b + ", " + c + ")",
                    mapper.gate(kind, a, b, c), reference.gate(kind, a, b, c));
        }
    }

    private void change() {
        int a = anyNode();
        int b = anyNode();
        switch (random.nextInt(12)) {
            case 0:
                due("feed(" + a + ", " + b + ")", mapper.feed(a, b) ? 1 : 0, reference.feed(a, b) ? 1 : 0);
                break;
            case 1:
                due("output(" + a + ")", mapper.output(a), reference.output(a));
                break;
            case 2:
                int k = 2 + random.nextInt(6);
                due("inputs(" + k + ")", mapper.inputs(k), reference.inputs(k));
                break;
            case 3:
            case 4:
            case 5:
                due("map()", mapper.map(), reference.map());
                break;
            case 6:
            case 7:
                int slack = random.nextInt(8) - 1;
                due("again(" + slack + ")", mapper.again(slack), reference.again(slack));
                break;
            case 8:
            case 9:
            case 10:
                boolean on = random.nextBoolean();
                due("set(" + a + ", " + on + ")", mapper.set(a, on), reference.set(a, on));
                break;
            default:
                int times = random.nextInt(6) == 0 ? random.nextInt(70) - 2 : 1 + random.nextInt(3);
                due("clock(" + times + ")", mapper.clock(times), reference.clock(times));
                break;
        }
    }

    private void ask() {
        if (reference.count(6) == 0 && random.nextInt(3) == 0) {
            due("map()", mapper.map(), reference.map());
        } else if (random.nextBoolean()) {
            askOfNetwork();
        } else {
            askOfTables();
        }
    }

    private void askOfNetwork() {
        int a = anyNode();
        int b = anyNode();
        int what = random.nextInt(11) - 1;
        switch (random.nextInt(10)) {
            case 0:
                due("node(" + a + ", " + what + ")", mapper.node(a, what), reference.node(a, what));
                break;
            case 1:
                due("near(" + a + ", " + what + ")", mapper.near(a, what), reference.near(a, what));
                break;
            case 2:
                due("cone(" + a + ")", mapper.cone(a), reference.cone(a));
                break;
            case 3:
            case 4:
                due("kept(" + a + ", " + what + ")", mapper.kept(a, what), reference.kept(a, what));
                break;
            case 5:
                askIsCut(a);
                break;
            case 6:
                due("depth()", mapper.depth(), reference.depth());
                break;
            case 7:
                due("is(" + a + ")", mapper.is(a), reference.is(a));
                break;
            case 8:
                due("differs(" + a + ", " + b + ")", mapper.differs(a, b), reference.differs(a, b));
                break;
            default:
                due("count(" + what + ")", mapper.count(what), reference.count(what));
                break;
        }
    }

    private void askIsCut(int gate) {
        long nodes = random.nextInt(4) == 0 ? 0 : reference.kept(gate, random.nextInt(5));
        for (int i = random.nextInt(4); i > 0; i--) {
            nodes ^= 1L << random.nextInt(random.nextInt(4) == 0 ? 64 : 1 + reference.count(0));
        }
        due("isCut(" + gate + ", " + nodes + ")", mapper.isCut(gate, nodes) ? 1 : 0,
                reference.isCut(gate, nodes) ? 1 : 0);
    }

    private void askOfTables() {
        int a = anyNode();
        int what = random.nextInt(8) - 1;
        int cells = random.nextInt(10);
        int nets = 5 + random.nextInt(13);
        switch (random.nextInt(11)) {
            case 0:
                due("chosen(" + a + ")", mapper.chosen(a), reference.chosen(a));
                break;
            case 1:
            case 2:
                due("table(" + a + ", " + what + ")", mapper.table(a, what), reference.table(a, what));
                break;
            case 3:
                askHolds(a);
                break;
            case 4:
                due("mapped(" + what + ")", mapper.mapped(what), reference.mapped(what));
                break;
            case 5:
                due("cell(" + a + ", " + what + ")", mapper.cell(a, what), reference.cell(a, what));
                break;
            case 6:
                due("clusters(" + cells + ", " + nets + ")", mapper.clusters(cells, nets),
                        reference.clusters(cells, nets));
                break;
            case 7:
                due("cluster(" + cells + ", " + nets + ", " + a + ")", mapper.cluster(cells, nets, a),
                        reference.cluster(cells, nets, a));
                break;
            case 8:
                due("cross(" + cells + ", " + nets + ")", mapper.cross(cells, nets), reference.cross(cells, nets));
                break;
            case 9:
                due("comes(" + a + ")", mapper.comes(a), reference.comes(a));
                break;
            default:
                due("slow(" + what + ")", mapper.slow(what), reference.slow(what));
                break;
        }
    }

    private void askHolds(int gate) {
        Long want = reference.holds(gate);
        try {
            long got = mapper.holds(gate);
            due("holds(" + gate + ") throws", 0, want == null ? 1 : 0);
            due("holds(" + gate + ")", got, want == null ? 0 : want);
        } catch (NoSuchElementException e) {
            due("holds(" + gate + ") throws", 1, want == null ? 1 : 0);
        }
    }
}
