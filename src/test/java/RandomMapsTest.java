import java.util.Random;

/**
 * Whole random networks, so wide and deep that choosing again matters, mapped and chosen again: all that can be asked
 * of cuts, TABLES, CELLS and CLUSTERS is held against Reference. The seeds are fixed.
 */
public final class RandomMapsTest {
    private static final int NETWORKS = 400;

    private final Checks checks = new Checks();
    private final String name;
    private final Random random;
    private final Subject mapper = new Subject();
    private final Reference reference = new Reference();
    private int size;

    private RandomMapsTest(int seed) {
        name = "network " + seed;
        random = new Random(seed);
    }

    public static void main(String[] args) {
        int wrong = 0;
        int fewer = 0;
        for (int seed = 0; seed < NETWORKS; seed++) {
            RandomMapsTest test = new RandomMapsTest(seed);
            fewer += test.run();
            wrong += test.checks.anyWrong() ? 1 : 0;
        }
        System.out.println(NETWORKS + " networks, " + fewer + " times fewer TABLES, " + wrong + " networks wrong");
        if (wrong != 0 || fewer == 0) {
            System.exit(1);
        }
    }

    private void due(String call, long got, long want) {
        if (!checks.anyWrong()) {
            checks.due(name + ": " + call, got, want);
        }
    }

    /** Answers how often AGAIN made TABLES fewer. */
    private int run() {
        int k = 3 + random.nextInt(4);
        due("inputs", mapper.change(x -> x.inputs(k)), reference.inputs(k));
        build();
        compareCuts();
        due("map", mapper.change(TableMapper::map), reference.map());
        compareTables();
        int fewer = 0;
        for (int i = 0; i < 4; i++) {
            int slack = random.nextInt(3) == 0 ? random.nextInt(6) : i / 2;
            long got = mapper.change(x -> x.again(slack));
            due("again(" + slack + ")", got, reference.again(slack));
            fewer += got > 0 ? 1 : 0;
            compareTables();
        }
        compareClusters();
        return fewer;
    }

    private void build() {
        size = 20 + random.nextInt(21);
        int leaves = 6 + random.nextInt(9);
        int window = 10 + random.nextInt(31);
        int ofThree = random.nextInt(10);
        long used = 0;
        for (int node = 0; node < size; node++) {
            if (node < leaves) {
                addLeaf();
            } else {
                int kind = random.nextInt(10) < ofThree ? 5 + random.nextInt(2) : random.nextInt(5);
                int a = source(node, window);
                int b = another(a, a, node, window);
                int c = another(a, b, node, window);
                due("gate", mapper.change(x -> x.gate(kind, a, b, c)), reference.gate(kind, a, b, c));
                used |= 1L << a | (kind > 0 ? 1L << b : 0) | (kind > 4 ? 1L << c : 0);
            }
        }
        feedRegisters();
        for (int node = size - 1; node >= 0; node--) {
            if ((used >> node & 1) == 0 || random.nextInt(20) == 0) {
                int root = node;
                due("output", mapper.change(x -> x.output(root)), reference.output(node));
            }
        }
    }

    private void addLeaf() {
        if (random.nextInt(3) == 0) {
            due("register", mapper.change(TableMapper::register), reference.register());
        } else {
            due("input", mapper.change(TableMapper::input), reference.input());
        }
    }

    private int source(int node, int window) {
        int least = Math.max(0, node - window);
        return least + random.nextInt(node - least);
    }

    private int another(int a, int b, int node, int window) {
        int found = source(node, window);
        while (found == a || found == b) {
            found = source(node, window);
        }
        return found;
    }

    private void feedRegisters() {
        for (int node = 0; node < size; node++) {
            int fed = random.nextInt(3) == 0 ? random.nextInt(size) : size - 1 - random.nextInt(size / 3);
            int register = node;
            due("feed", mapper.change(x -> x.feed(register, fed) ? 1 : 0), reference.feed(node, fed) ? 1 : 0);
        }
    }

    private void compareCuts() {
        for (int node = 0; node < size; node++) {
            compareCutsOf(node);
        }
        due("depth()", mapper.ask(TableMapper::depth), reference.depth());
    }

    private void compareCutsOf(int node) {
        due("LEVEL of " + node, mapper.ask(x -> x.node(node, 5)), reference.node(node, 5));
        due("cone(" + node + ")", mapper.ask(x -> x.cone(node)), reference.cone(node));
        for (int i = 0; i < 9; i++) {
            int c = i;
            due("kept(" + node + ", " + c + ")", mapper.ask(x -> x.kept(node, c)), reference.kept(node, c));
            due("near(" + node + ", " + (c - 1) + ")", mapper.ask(x -> x.near(node, c - 1)),
                    reference.near(node, c - 1));
        }
    }

    private void compareTables() {
        for (int gate = 0; gate < size; gate++) {
            compareTable(gate);
        }
        int node = random.nextInt(size);
        for (int what = 0; what < 6; what++) {
            compareWhat(node, node / 3, what);
        }
        if (reference.holds(node) != null) {
            due("holds(" + node + ")", mapper.ask(x -> x.holds(node)), reference.holds(node));
        }
        due("set", mapper.change(x -> x.set(node, true)), reference.set(node, true));
        due("clock", mapper.change(x -> x.clock(1)), reference.clock(1));
    }

    private void compareTable(int gate) {
        due("chosen(" + gate + ")", mapper.ask(x -> x.chosen(gate)), reference.chosen(gate));
        due("ARRIVAL of " + gate, mapper.ask(x -> x.table(gate, 1)), reference.table(gate, 1));
        due("slow(" + gate + ")", mapper.ask(x -> x.slow(gate)), reference.slow(gate));
        due("comes(" + gate + ")", mapper.ask(x -> x.comes(gate)), reference.is(gate));
    }

    private void compareWhat(int node, int cell, int what) {
        due("mapped(" + what + ")", mapper.ask(x -> x.mapped(what)), reference.mapped(what));
        due("table(" + node + ", " + what + ")", mapper.ask(x -> x.table(node, what)), reference.table(node, what));
        due("cell(" + cell + ", " + what + ")", mapper.ask(x -> x.cell(cell, what)), reference.cell(cell, what));
    }

    private void compareClusters() {
        for (int i = 0; i < 3; i++) {
            int cells = 1 + random.nextInt(8);
            int nets = 6 + random.nextInt(11);
            String limit = "(" + cells + ", " + nets + ")";
            due("clusters" + limit, mapper.ask(x -> x.clusters(cells, nets)), reference.clusters(cells, nets));
            due("cross" + limit, mapper.ask(x -> x.cross(cells, nets)), reference.cross(cells, nets));
            int count = reference.mapped(4);
            for (int c = 0; c < count; c++) {
                int cell = c;
                due("cluster" + limit + " of " + cell, mapper.ask(x -> x.cluster(cells, nets, cell)),
                        reference.cluster(cells, nets, cell));
            }
        }
    }
}
