import java.util.NoSuchElementException;

/** A network of inputs, gates and registers that is laid onto tables of k inputs. */
public final class TableMapper {
    public static final int NONE = -1;

    private static final int MOST_NODES = 40;
    private static final int MOST_OUTPUTS = 12;
    private static final int MOST_SOURCES = 3;
    private static final int LEAST_K = 3;
    private static final int GREATEST_K = 6;
    private static final int FIRST_K = 4;
    private static final int MOST_KEPT = 8;
    private static final int GREATEST_SLACK = 5;
    private static final int MOST_CLOCKS = 64;
    private static final int MOST_TABLES_TO_PAIR = 14;
    private static final int MOST_CELLS = 8;
    private static final int LEAST_NETS = 6;
    private static final int MOST_NETS = 16;
    private static final int NO_SUCH_CELL = -2;

    private final Network network;
    private final Signals signals;
    private final Cuts[] cutsByK;
    private final Cover cover;
    private final Contents contents;
    private final Cells cells;
    private final Clustering clustering;
    private int k;
    private boolean isMapped;

    public TableMapper() {
        network = new Network();
        signals = new Signals(network);
        Ways ways = new Ways(network);
        Row row = new Row();
        cutsByK = new Cuts[GREATEST_K - LEAST_K + 1];
        for (int i = 0; i < cutsByK.length; i++) {
            cutsByK[i] = new Cuts(network, ways, row, LEAST_K + i);
        }
        cover = new Cover(network);
        contents = new Contents(network, cover);
        cells = new Cells(network, cover);
        clustering = new Clustering(cells);
        k = FIRST_K;
        isMapped = false;
    }

    public int input() {
        if (network.isFull()) {
            return NONE;
        }
        isMapped = false;
        return network.addInput();
    }

    public int gate(int kind, int a, int b, int c) {
        if (network.isFull() || !Network.isKind(kind)) {
            return NONE;
        }
        int sources = Network.sourcesOf(kind);
        if (!network.isNode(a) || sources > 1 && !network.isNode(b) || sources > 2 && !network.isNode(c)) {
            return NONE;
        }
        isMapped = false;
        return network.addGate(kind, a, sources > 1 ? b : a, sources > 2 ? c : a);
    }

    public int register() {
        if (network.isFull()) {
            return NONE;
        }
        isMapped = false;
        return network.addRegister();
    }

    public boolean feed(int register, int node) {
        if (!network.isRegister(register) || !network.isNode(node)) {
            return false;
        }
        isMapped = false;
        network.setFeed(register, node);
        return true;
    }

    public int output(int node) {
        if (!network.isNode(node) || has(network.outputs, node)
                || Long.bitCount(network.outputs) >= MOST_OUTPUTS) {
            return NONE;
        }
        isMapped = false;
        network.outputs |= bit(node);
        return Long.bitCount(network.outputs);
    }

    public int inputs(int k) {
        if (k < LEAST_K || k > GREATEST_K) {
            return NONE;
        }
        int was = this.k;
        if (k != was) {
            isMapped = false;
        }
        this.k = k;
        return was;
    }

    public int map() {
        cover.takeNearCuts(cutsOfK());
        isMapped = true;
        followCover();
        return Long.bitCount(cover.tables);
    }

    public int again(int slack) {
        if (!isMapped || slack < 0 || slack > GREATEST_SLACK) {
            return NONE;
        }
        int fewer = cover.chooseAgain(cutsOfK(), slack);
        followCover();
        return fewer;
    }

    public int set(int input, boolean on) {
        if (!network.isInput(input)) {
            return NONE;
        }
        return signals.setInput(input, on);
    }

    public int clock(int times) {
        if (times < 1 || times > MOST_CLOCKS) {
            return NONE;
        }
        return signals.run(times);
    }

    public int node(int node, int what) {
        if (!network.isNode(node)) {
            return NONE;
        }
        switch (what) {
            case 0:
                return network.isGate(node) ? 1 : network.isRegister(node) ? 2 : 0;
            case 1:
                return network.isGate(node) ? network.kindOf(node) : NONE;
            case 2:
            case 3:
            case 4:
                return network.sourceOrFeed(node, what - 2);
            case 5:
                return cutsOfK().level[node];
            case 6:
                return has(network.roots(), node) ? 1 : 0;
            case 7:
                return Long.bitCount(network.below[node]);
            default:
                return NONE;
        }
    }

    public int near(int gate, int i) {
        if (!network.isGate(gate)) {
            return NONE;
        }
        long cut = cutsOfK().near[gate];
        return i == NONE ? Long.bitCount(cut) : nthOf(cut, i);
    }

    public int cone(int gate) {
        if (!network.isGate(gate)) {
            return NONE;
        }
        return Long.bitCount(network.reached(gate, cutsOfK().near[gate]));
    }

    public long kept(int gate, int c) {
        if (!network.isGate(gate) || c < 0 || c >= MOST_KEPT) {
            return 0;
        }
        return cutsOfK().keptCut(gate, c);
    }

    public boolean isCut(int gate, long nodes) {
        return network.isGate(gate) && Long.bitCount(nodes) <= k && network.separates(gate, nodes);
    }

    public int depth() {
        return cutsOfK().greatestLevel(network.roots());
    }

    public long chosen(int gate) {
        return isMapped && network.isGate(gate) ? cover.chosen[gate] : 0;
    }

    public int table(int gate, int what) {
        if (!isMapped || !network.isGate(gate)) {
            return NONE;
        }
        switch (what) {
            case 0:
                return has(cover.tables, gate) ? 1 : 0;
            case 1:
                return cover.arrival[gate];
            case 2:
                return cover.usesOf(gate);
            case 3:
                return cells.partner[gate];
            case 4:
                return cells.cellOf[gate];
            case 5:
                return contents.caresOf(gate);
            default:
                return NONE;
        }
    }

    public long holds(int gate) throws NoSuchElementException {
        if (!isMapped || !network.isGate(gate)) {
            throw new NoSuchElementException("no GATE, or it is not MAPPED");
        }
        return contents.bitsOf(gate);
    }

    public int mapped(int what) {
        if (!isMapped) {
            return NONE;
        }
        switch (what) {
            case 0:
                return Long.bitCount(cover.tables);
            case 1:
                return cover.greatestArrival(network.roots());
            case 2:
                return cells.pairs;
            case 3:
                return cells.mostPairs();
            case 4:
                return cells.size;
            case 5:
                return Long.bitCount(cells.packed);
            default:
                return NONE;
        }
    }

    public int cell(int cell, int what) {
        if (!isMapped || !cells.isCell(cell)) {
            return NO_SUCH_CELL;
        }
        switch (what) {
            case 0:
            case 1:
                return nthOf(cells.tablesIn[cell], what);
            case 2:
            case 3:
                return nthOf(cells.registersIn[cell], what - 2);
            case 4:
                return Long.bitCount(cells.netsIn[cell]);
            default:
                return NO_SUCH_CELL;
        }
    }

    public int clusters(int cells, int nets) {
        if (!isMapped || !Clustering.isLimit(cells, nets)) {
            return NONE;
        }
        clustering.fill(cells, nets);
        return clustering.size;
    }

    public int cluster(int cells, int nets, int cell) {
        if (!isMapped || !Clustering.isLimit(cells, nets) || !this.cells.isCell(cell)) {
            return NONE;
        }
        clustering.fill(cells, nets);
        return clustering.clusterOf[cell];
    }

    public int cross(int cells, int nets) {
        if (!isMapped || !Clustering.isLimit(cells, nets)) {
            return NONE;
        }
        clustering.fill(cells, nets);
        return clustering.countCrossing();
    }

    public int is(int node) {
        if (!network.isNode(node)) {
            return NONE;
        }
        return has(signals.now(), node) ? 1 : 0;
    }

    public int comes(int node) {
        if (!isMapped || !network.isNode(node)) {
            return NONE;
        }
        return has(contents.nodesByTables(signals.leavesOn, node), node) ? 1 : 0;
    }

    public int differs(int node, int input) {
        if (!network.isNode(node) || !network.isInput(input)) {
            return NONE;
        }
        return has(signals.changedBy(input), node) ? 1 : 0;
    }

    public int slow(int i) {
        if (!isMapped || i < 0 || i >= MOST_NODES) {
            return NONE;
        }
        return cover.onSlowWay(i);
    }

    public int count(int what) {
        switch (what) {
            case 0:
                return network.size;
            case 1:
                return Long.bitCount(network.inputs);
            case 2:
                return Long.bitCount(network.gates);
            case 3:
                return Long.bitCount(network.registers);
            case 4:
                return Long.bitCount(network.outputs);
            case 5:
                return k;
            case 6:
                return isMapped ? 1 : 0;
            case 7:
                return Long.bitCount(network.roots());
            default:
                return NONE;
        }
    }

    private Cuts cutsOfK() {
        Cuts cuts = cutsByK[k - LEAST_K];
        for (int node = cuts.learnt; node < network.size; node++) {
            cuts.learn(node);
        }
        return cuts;
    }

    private void followCover() {
        contents.forget();
        cells.fillAnew(k);
        clustering.forget();
    }

    private static long bit(int node) {
        return 1L << node;
    }

    private static boolean has(long nodes, int node) {
        return (nodes >> node & 1) != 0;
    }

    /** The lowest of some NODES; of none it is 64, which no caller asks for. */
    private static int lowest(long nodes) {
        return Long.bitCount((nodes & -nodes) - 1);
    }

    private static int nthOf(long nodes, int n) {
        int place = 0;
        for (long left = nodes; left != 0; left &= left - 1) {
            if (place == n) {
                return lowest(left);
            }
            place++;
        }
        return NONE;
    }

    /** What was told: NODES with their SOURCES and FEEDS, and OUTPUTS; sets of NODES are bits. */
    private static final class Network {
        private static final int[] SOURCES = {1, 2, 2, 2, 2, 3, 3};

        private final int[] kind = new int[MOST_NODES];
        // A GATE with fewer SOURCES has its first one in the places behind, so that each place can be read.
        private final int[] source = new int[MOST_NODES * MOST_SOURCES];
        private final int[] feeds = new int[MOST_NODES];
        final long[] sources = new long[MOST_NODES];
        final long[] below = new long[MOST_NODES];
        long inputs;
        long gates;
        long registers;
        long outputs;
        int size;

        static boolean isKind(int kind) {
            return kind >= 0 && kind < SOURCES.length;
        }

        static int sourcesOf(int kind) {
            return SOURCES[kind];
        }

        boolean isFull() {
            return size >= MOST_NODES;
        }

        boolean isNode(int node) {
            return node >= 0 && node < size;
        }

        boolean isInput(int node) {
            return isNode(node) && has(inputs, node);
        }

        boolean isGate(int node) {
            return isNode(node) && has(gates, node);
        }

        boolean isRegister(int node) {
            return isNode(node) && has(registers, node);
        }

        int addInput() {
            inputs |= bit(size);
            return size++;
        }

        int addRegister() {
            registers |= bit(size);
            feeds[size] = size;
            return size++;
        }

        int addGate(int kindOfIt, int a, int b, int c) {
            gates |= bit(size);
            kind[size] = kindOfIt;
            source[size * MOST_SOURCES] = a;
            source[size * MOST_SOURCES + 1] = b;
            source[size * MOST_SOURCES + 2] = c;
            sources[size] = bit(a) | bit(b) | bit(c);
            below[size] = sources[size] | below[a] | below[b] | below[c];
            return size++;
        }

        void setFeed(int register, int node) {
            feeds[register] = node;
        }

        int kindOf(int gate) {
            return kind[gate];
        }

        int feedOf(int register) {
            return feeds[register];
        }

        int sourceOf(int gate, int place) {
            return place < SOURCES[kind[gate]] ? source[gate * MOST_SOURCES + place] : NONE;
        }

        int sourceOrFeed(int node, int place) {
            if (isGate(node)) {
                return sourceOf(node, place);
            }
            return isRegister(node) && place == 0 ? feeds[node] : NONE;
        }

        long roots() {
            long roots = outputs;
            for (long left = registers; left != 0; left &= left - 1) {
                roots |= bit(feeds[lowest(left)]);
            }
            return roots;
        }

        /** What one comes to from a GATE, itself too, without coming to the NODES of a cut. */
        long reached(int gate, long cut) {
            long reached = bit(gate);
            for (int node = gate; node >= 0; node--) {
                if (has(reached, node)) {
                    reached |= sources[node] & ~cut;
                }
            }
            return reached;
        }

        boolean separates(int gate, long nodes) {
            return (nodes & ~below[gate]) == 0 && (reached(gate, nodes) & ~gates) == 0;
        }

        /** What a GATE makes of its SOURCES, for each bit of their values by itself. */
        long valueOf(int gate, long[] values) {
            long a = values[source[gate * MOST_SOURCES]];
            long b = values[source[gate * MOST_SOURCES + 1]];
            long c = values[source[gate * MOST_SOURCES + 2]];
            switch (kind[gate]) {
                case 0:
                    return ~a;
                case 1:
                    return a & b;
                case 2:
                    return a | b;
                case 3:
                    return a ^ b;
                case 4:
                    return ~(a & b);
                case 5:
                    return a & b | ~a & c;
                default:
                    return a & b | a & c | b & c;
            }
        }
    }

    /** What the NODES are, clock by clock. */
    private static final class Signals {
        private final Network network;
        private final long[] values = new long[MOST_NODES];
        long leavesOn;

        Signals(Network network) {
            this.network = network;
        }

        int setInput(int input, boolean on) {
            int was = has(leavesOn, input) ? 1 : 0;
            leavesOn = on ? leavesOn | bit(input) : leavesOn & ~bit(input);
            return was;
        }

        long now() {
            return nodesOn(leavesOn);
        }

        long changedBy(int input) {
            return nodesOn(leavesOn) ^ nodesOn(leavesOn ^ bit(input));
        }

        /** Answers how many REGISTERS the last CLOCK made others. */
        int run(int times) {
            int changed = 0;
            for (int i = 0; i < times; i++) {
                long next = leavesOn & network.inputs | registersNext();
                changed = Long.bitCount(next ^ leavesOn);
                leavesOn = next;
            }
            return changed;
        }

        private long registersNext() {
            long on = now();
            long next = 0;
            for (long left = network.registers; left != 0; left &= left - 1) {
                int register = lowest(left);
                if (has(on, network.feedOf(register))) {
                    next |= bit(register);
                }
            }
            return next;
        }

        private long nodesOn(long leaves) {
            long on = 0;
            for (int node = 0; node < network.size; node++) {
                values[node] = has(network.gates, node) ? network.valueOf(node, values) : leaves >> node;
                on |= (values[node] & 1) << node;
            }
            return on;
        }
    }

    /**
     * Ways from a GATE down to LEAVES of which no two share a NODE: as many as can be are laid, one by one,
     * each new one turning earlier ones where it meets them. As many NODES as there are ways make the smallest cut,
     * and the search that finds no further way tells the one that is nearest to the GATE.
     */
    private static final class Ways {
        // A NODE is come to at its upper end (its number) and left from its lower end (MOST_NODES more).
        private final int[] cameFrom = new int[2 * MOST_NODES];
        private final int[] queue = new int[2 * MOST_NODES];
        private final int[] aheadOnWay = new int[MOST_NODES];
        private final Network network;
        private long onWays;
        private long upperSeen;
        private long lowerSeen;
        private int queued;

        Ways(Network network) {
            this.network = network;
        }

        /** The smallest cut below some GATES, the nearest of these; 0, if it has more than k NODES. */
        long nearestCut(long gates, int k) {
            long starts = 0;
            for (long left = gates; left != 0; left &= left - 1) {
                starts |= network.sources[lowest(left)];
            }
            starts &= ~gates;
            onWays = 0;
            for (int ways = 0; ways <= k; ways++) {
                int leaf = findWay(starts);
                if (leaf == NONE) {
                    return upperSeen & ~lowerSeen;
                }
                layWay(leaf + MOST_NODES);
            }
            return 0;
        }

        /** The LEAF at which one more way ends, NONE if there is no such way. */
        private int findWay(long starts) {
            upperSeen = 0;
            lowerSeen = 0;
            queued = 0;
            seeUppers(starts, NONE);
            for (int i = 0; i < queued && i < queue.length; i++) {
                int end = queue[i];
                int node = end < MOST_NODES ? end : end - MOST_NODES;
                if (end == node) {
                    seeLower(has(onWays, node) ? aheadOnWay[node] : node, end);
                } else if (has(network.gates, node)) {
                    long itself = onWays & bit(node);
                    seeUppers(network.sources[node] | itself, end);
                } else {
                    return node;
                }
            }
            return NONE;
        }

        private void seeUppers(long nodes, int from) {
            for (long left = nodes & ~upperSeen; left != 0; left &= left - 1) {
                int node = lowest(left);
                cameFrom[node] = from;
                queue[queued++] = node;
            }
            upperSeen |= nodes;
        }

        private void seeLower(int node, int from) {
            if (node != NONE && !has(lowerSeen, node)) {
                lowerSeen |= bit(node);
                cameFrom[node + MOST_NODES] = from;
                queue[queued++] = node + MOST_NODES;
            }
        }

        private void layWay(int lastEnd) {
            int end = lastEnd;
            for (int step = 0; step < 2 * MOST_NODES && end != NONE; step++) {
                int from = cameFrom[end];
                if (end >= MOST_NODES) {
                    if (from == end - MOST_NODES) {
                        onWays |= bit(from);
                    }
                } else if (from == end + MOST_NODES) {
                    onWays &= ~bit(end);
                } else {
                    aheadOnWay[end] = from == NONE ? NONE : from - MOST_NODES;
                }
                end = from;
            }
        }
    }

    /**
     * Cuts out of which the first in ROW are taken. One with all NODES of another one is behind that in ROW (its LEVEL
     * is not less, its NODES are more), so it is enough to drop it as the other one is taken.
     */
    private static final class Row {
        private static final int MOST = 1 + (1 + MOST_KEPT) * (1 + MOST_KEPT) * (1 + MOST_KEPT);

        private final long[] cuts = new long[MOST];
        private final long[] places = new long[MOST];
        private int size;

        void clear() {
            size = 0;
        }

        void add(long cut, long place) {
            if (size < MOST) {
                cuts[size] = cut;
                places[size] = place;
                size++;
            }
        }

        /** The first in ROW, 0 if none is left. */
        long takeFirst() {
            if (size == 0) {
                return 0;
            }
            int first = 0;
            for (int i = 1; i < size; i++) {
                if (places[i] < places[first]) {
                    first = i;
                }
            }
            long cut = cuts[first];
            dropAllWith(cut);
            return cut;
        }

        private void dropAllWith(long cut) {
            int left = 0;
            for (int i = 0; i < size; i++) {
                if ((cut & ~cuts[i]) != 0) {
                    cuts[left] = cuts[i];
                    places[left] = places[i];
                    left++;
                }
            }
            size = left;
        }
    }

    /** LEVELS, NEAR CUTS and KEPT CUTS for one K. What is told later changes none of them, so each is found once. */
    private static final class Cuts {
        private static final int NODE_BITS = 6;
        private static final int SIZE_BITS = 3;

        private final Network network;
        private final Ways ways;
        private final Row row;
        private final int k;
        final int[] level = new int[MOST_NODES];
        final long[] near = new long[MOST_NODES];
        private final long[] kept = new long[MOST_NODES * MOST_KEPT];
        private final int[] keptSize = new int[MOST_NODES];
        int learnt;

        Cuts(Network network, Ways ways, Row row, int k) {
            this.network = network;
            this.ways = ways;
            this.row = row;
            this.k = k;
        }

        /**
         * Each NODE once, by numbers. A LEVEL is never less than that of what is below, and at most 1 more than the
         * greatest of the SOURCES: so it is that one, if there is a cut without any NODE that has it.
         */
        void learn(int node) {
            learnt = node + 1;
            if (!has(network.gates, node)) {
                return;
            }
            int least = greatestLevel(network.sources[node]);
            long cut = least == 0 ? 0 : ways.nearestCut(bit(node) | belowAtLevel(node, least), k);
            if (cut != 0) {
                level[node] = least;
                near[node] = cut;
            } else {
                level[node] = least + 1;
                near[node] = ways.nearestCut(bit(node), k);
            }
            learnKept(node);
        }

        int greatestLevel(long nodes) {
            int greatest = 0;
            for (long left = nodes; left != 0; left &= left - 1) {
                greatest = Math.max(greatest, level[lowest(left)]);
            }
            return greatest;
        }

        long keptCut(int gate, int c) {
            return c < keptSize[gate] ? kept[gate * MOST_KEPT + c] : 0;
        }

        private long belowAtLevel(int gate, int wanted) {
            long found = 0;
            for (long left = network.below[gate]; left != 0; left &= left - 1) {
                int node = lowest(left);
                if (level[node] == wanted) {
                    found |= bit(node);
                }
            }
            return found;
        }

        private void learnKept(int gate) {
            row.clear();
            row.add(near[gate], placeInRow(near[gate]));
            int ofFirst = choices(gate, 0);
            int ofSecond = choices(gate, 1);
            for (int i = 0; i < ofFirst; i++) {
                for (int j = 0; j < ofSecond; j++) {
                    addWithThird(gate, choice(gate, 0, i) | choice(gate, 1, j));
                }
            }
            takeKept(gate);
        }

        private void takeKept(int gate) {
            keptSize[gate] = 0;
            for (int c = 0; c < MOST_KEPT; c++) {
                long cut = row.takeFirst();
                if (cut == 0) {
                    return;
                }
                kept[gate * MOST_KEPT + c] = cut;
                keptSize[gate] = c + 1;
            }
        }

        private void addWithThird(int gate, long ofTwo) {
            if (Long.bitCount(ofTwo) > k) {
                return;
            }
            int choices = choices(gate, 2);
            for (int i = 0; i < choices; i++) {
                long cut = ofTwo | choice(gate, 2, i);
                if (Long.bitCount(cut) <= k) {
                    row.add(cut, placeInRow(cut));
                }
            }
        }

        private int choices(int gate, int place) {
            int source = network.sourceOf(gate, place);
            return source == NONE ? 1 : 1 + keptSize[source];
        }

        /** The SOURCE alone, then its KEPT CUTS; nothing for a SOURCE that the GATE has not. */
        private long choice(int gate, int place, int i) {
            int source = network.sourceOf(gate, place);
            if (source == NONE) {
                return 0;
            }
            return i == 0 ? bit(source) : kept[source * MOST_KEPT + i - 1];
        }

        /** A number by which cuts are in ROW. */
        private long placeInRow(long cut) {
            long nodes = 0;
            int size = 0;
            int greatest = 0;
            for (long left = cut; left != 0 && size < GREATEST_K; left &= left - 1) {
                int node = lowest(left);
                nodes = nodes << NODE_BITS | node;
                greatest = Math.max(greatest, level[node]);
                size++;
            }
            long head = (long) greatest << SIZE_BITS | size;
            return head << NODE_BITS * GREATEST_K | nodes << NODE_BITS * (GREATEST_K - size);
        }
    }

    /** CHOSEN of each GATE, and the TABLES and ARRIVALS that come of it. */
    private static final class Cover {
        private static final int NOT_DUE = 1000;

        private final Network network;
        private final int[] due = new int[MOST_NODES];
        final long[] chosen = new long[MOST_NODES];
        final int[] arrival = new int[MOST_NODES];
        long tables;

        Cover(Network network) {
            this.network = network;
        }

        void takeNearCuts(Cuts cuts) {
            for (long left = network.gates; left != 0; left &= left - 1) {
                int gate = lowest(left);
                chosen[gate] = cuts.near[gate];
                arrival[gate] = arrivalBy(chosen[gate]);
            }
            tables = withChosen(network.roots() & network.gates, network.size - 1, 0);
        }

        /** Answers how many TABLES fewer there are. */
        int chooseAgain(Cuts cuts, int slack) {
            int before = Long.bitCount(tables);
            long roots = network.roots();
            findDue(roots, cuts.greatestLevel(roots) + slack);
            for (long left = network.gates; left != 0; left &= left - 1) {
                int gate = lowest(left);
                if (has(tables, gate)) {
                    // No GATE below can ask for this one or a higher one, so these are TABLES whatever is chosen here.
                    long higher = withChosen(roots & network.gates, network.size - 1, gate + 1);
                    chosen[gate] = bestCut(cuts, gate, higher);
                    tables = tablesWith(chosen[gate], higher, gate);
                }
                arrival[gate] = arrivalBy(chosen[gate]);
            }
            return before - Long.bitCount(tables);
        }

        int greatestArrival(long nodes) {
            int greatest = 0;
            for (long left = nodes; left != 0; left &= left - 1) {
                greatest = Math.max(greatest, arrival[lowest(left)]);
            }
            return greatest;
        }

        int usesOf(int node) {
            int uses = 0;
            for (long left = tables; left != 0; left &= left - 1) {
                if (has(chosen[lowest(left)], node)) {
                    uses++;
                }
            }
            return uses;
        }

        int onSlowWay(int i) {
            long next = network.roots();
            int node = NONE;
            for (int step = 0; step <= i; step++) {
                if (next == 0) {
                    return NONE;
                }
                node = latestOf(next);
                next = has(network.gates, node) ? chosen[node] : 0;
            }
            return node;
        }

        private int latestOf(long nodes) {
            int latest = lowest(nodes);
            for (long left = nodes; left != 0; left &= left - 1) {
                int node = lowest(left);
                if (arrival[node] > arrival[latest]) {
                    latest = node;
                }
            }
            return latest;
        }

        private int arrivalBy(long cut) {
            return 1 + greatestArrival(cut);
        }

        /** These GATES and those in the CHOSEN of the ones between two numbers, on and on. */
        private long withChosen(long tablesSoFar, int highest, int least) {
            long found = tablesSoFar;
            for (int node = highest; node >= least; node--) {
                if (has(found, node)) {
                    found |= chosen[node] & network.gates;
                }
            }
            return found;
        }

        private long tablesWith(long cut, long higher, int gate) {
            return withChosen(higher | cut & network.gates, gate - 1, 0);
        }

        private void findDue(long roots, int dueOfRoots) {
            for (int node = 0; node < network.size; node++) {
                due[node] = has(roots, node) ? dueOfRoots : NOT_DUE;
            }
            for (int node = network.size - 1; node >= 0; node--) {
                if (has(tables, node)) {
                    for (long left = chosen[node]; left != 0; left &= left - 1) {
                        int source = lowest(left);
                        due[source] = Math.min(due[source], due[node] - 1);
                    }
                }
            }
        }

        private long bestCut(Cuts cuts, int gate, long higher) {
            long best = chosen[gate];
            int fewest = Long.bitCount(tablesWith(best, higher, gate));
            int soonest = arrivalBy(best);
            for (int c = 0; c < MOST_KEPT; c++) {
                long cut = cuts.keptCut(gate, c);
                if (cut == 0) {
                    break;
                }
                int arrives = arrivalBy(cut);
                if (arrives <= due[gate]) {
                    int many = Long.bitCount(tablesWith(cut, higher, gate));
                    if (many < fewest || many == fewest && arrives < soonest) {
                        best = cut;
                        fewest = many;
                        soonest = arrives;
                    }
                }
            }
            return best;
        }
    }

    /** What GATES HOLD by their CHOSEN. */
    private static final class Contents {
        private static final long[] PLACES = {
            0xAAAAAAAAAAAAAAAAL, 0xCCCCCCCCCCCCCCCCL, 0xF0F0F0F0F0F0F0F0L,
            0xFF00FF00FF00FF00L, 0xFFFF0000FFFF0000L, 0xFFFFFFFF00000000L};

        private final Network network;
        private final Cover cover;
        private final long[] bits = new long[MOST_NODES];
        private final long[] values = new long[MOST_NODES];
        private long known;

        Contents(Network network, Cover cover) {
            this.network = network;
            this.cover = cover;
        }

        void forget() {
            known = 0;
        }

        long bitsOf(int gate) {
            if (!has(known, gate)) {
                bits[gate] = findBits(gate);
                known |= bit(gate);
            }
            return bits[gate];
        }

        /** Bits by the places of CHOSEN on which what the GATE HOLDS hangs. */
        int caresOf(int gate) {
            long held = bitsOf(gate);
            int size = Long.bitCount(cover.chosen[gate]);
            int cares = 0;
            for (int place = 0; place < size && place < PLACES.length; place++) {
                long whereOn = (held & PLACES[place]) >>> (1 << place);
                long whereOff = held & ~PLACES[place];
                if (whereOn != whereOff) {
                    cares |= 1 << place;
                }
            }
            return cares;
        }

        /** NODES up to a last one that are 1 by TABLES. */
        long nodesByTables(long leavesOn, int last) {
            long on = 0;
            for (int node = 0; node <= last; node++) {
                boolean isOn = has(network.gates, node)
                        ? (bitsOf(node) >>> told(cover.chosen[node], on) & 1) != 0
                        : has(leavesOn, node);
                if (isOn) {
                    on |= bit(node);
                }
            }
            return on;
        }

        private static int told(long cut, long on) {
            int told = 0;
            int place = 0;
            for (long left = cut; left != 0; left &= left - 1) {
                if (has(on, lowest(left))) {
                    told |= 1 << place;
                }
                place++;
            }
            return told;
        }

        private long findBits(int gate) {
            long cut = cover.chosen[gate];
            int size = 0;
            for (long left = cut; left != 0 && size < PLACES.length; left &= left - 1) {
                values[lowest(left)] = PLACES[size];
                size++;
            }
            for (long left = network.reached(gate, cut) & network.gates; left != 0; left &= left - 1) {
                int node = lowest(left);
                values[node] = network.valueOf(node, values);
            }
            return size == PLACES.length ? values[gate] : values[gate] & (1L << (1 << size)) - 1;
        }
    }

    /** TABLES in PAIRS, CELLS, and REGISTERS packed into them. */
    private static final class Cells {
        private final Network network;
        private final Cover cover;
        private final long[] mates = new long[MOST_NODES];
        final int[] partner = new int[MOST_NODES];
        final int[] cellOf = new int[MOST_NODES];
        final long[] tablesIn = new long[MOST_NODES];
        final long[] registersIn = new long[MOST_NODES];
        final long[] netsIn = new long[MOST_NODES];
        long packed;
        int pairs;
        int size;

        Cells(Network network, Cover cover) {
            this.network = network;
            this.cover = cover;
        }

        boolean isCell(int cell) {
            return cell >= 0 && cell < size;
        }

        long netsOut(int cell) {
            return tablesIn[cell] | registersIn[cell];
        }

        void fillAnew(int k) {
            findMates(k - 1);
            pairTables();
            layTables();
            layRegisters();
        }

        /** NONE, if there are too many TABLES. */
        int mostPairs() {
            return Long.bitCount(cover.tables) > MOST_TABLES_TO_PAIR ? NONE : mostPairsOf(mates, cover.tables, 0);
        }

        private void findMates(int mostNodes) {
            for (int node = 0; node < network.size; node++) {
                mates[node] = 0;
            }
            for (long left = cover.tables; left != 0; left &= left - 1) {
                int lower = lowest(left);
                for (long rest = left & left - 1; rest != 0; rest &= rest - 1) {
                    int higher = lowest(rest);
                    // A CHOSEN has lower NODES alone, so the higher TABLE is never in that of the lower one.
                    if (!has(cover.chosen[higher], lower)
                            && Long.bitCount(cover.chosen[lower] | cover.chosen[higher]) <= mostNodes) {
                        mates[lower] |= bit(higher);
                        mates[higher] |= bit(lower);
                    }
                }
            }
        }

        private void pairTables() {
            pairs = 0;
            for (int node = 0; node < network.size; node++) {
                partner[node] = NONE;
            }
            long single = cover.tables;
            for (long left = cover.tables; left != 0; left &= left - 1) {
                int lower = lowest(left);
                long fit = mates[lower] & single & left;
                if (has(single, lower) && fit != 0) {
                    int higher = lowest(fit);
                    partner[lower] = higher;
                    partner[higher] = lower;
                    single &= ~(bit(lower) | bit(higher));
                    pairs++;
                }
            }
        }

        private void layTables() {
            size = 0;
            for (int node = 0; node < network.size; node++) {
                cellOf[node] = NONE;
            }
            for (long left = cover.tables; left != 0; left &= left - 1) {
                int table = lowest(left);
                if (cellOf[table] == NONE) {
                    addCell(bit(table), 0, cover.chosen[table]);
                    cellOf[table] = size - 1;
                    if (partner[table] != NONE) {
                        join(partner[table], size - 1);
                    }
                }
            }
        }

        private void addCell(long tables, long registers, long nets) {
            tablesIn[size] = tables;
            registersIn[size] = registers;
            netsIn[size] = nets;
            size++;
        }

        private void join(int table, int cell) {
            tablesIn[cell] |= bit(table);
            netsIn[cell] |= cover.chosen[table];
            cellOf[table] = cell;
        }

        private void layRegisters() {
            packed = 0;
            long free = cover.tables & ~network.outputs & ~usedByTables() & ~fedToSeveral();
            for (long left = network.registers; left != 0; left &= left - 1) {
                int register = lowest(left);
                int fed = network.feedOf(register);
                if (has(free, fed)) {
                    registersIn[cellOf[fed]] |= bit(register);
                    packed |= bit(register);
                } else {
                    addCell(0, bit(register), bit(fed));
                }
            }
        }

        private long usedByTables() {
            long used = 0;
            for (long left = cover.tables; left != 0; left &= left - 1) {
                used |= cover.chosen[lowest(left)];
            }
            return used;
        }

        private long fedToSeveral() {
            long fed = 0;
            long several = 0;
            for (long left = network.registers; left != 0; left &= left - 1) {
                long feed = bit(network.feedOf(lowest(left)));
                several |= fed & feed;
                fed |= feed;
            }
            return several;
        }

        /** A TABLE that has a mate left is in a pair in one of the ways with the most pairs, so none is passed by. */
        private static int mostPairsOf(long[] mates, long left, int depth) {
            long able = withMates(mates, left);
            if (able == 0 || depth > MOST_TABLES_TO_PAIR) {
                return 0;
            }
            int table = withFewestMates(mates, able);
            int bound = Long.bitCount(able) / 2;
            int most = 0;
            for (long with = mates[table] & able; with != 0 && most < bound; with &= with - 1) {
                long rest = able & ~bit(table) & ~bit(lowest(with));
                most = Math.max(most, 1 + mostPairsOf(mates, rest, depth + 1));
            }
            return most;
        }

        private static long withMates(long[] mates, long tables) {
            long able = 0;
            for (long left = tables; left != 0; left &= left - 1) {
                int table = lowest(left);
                if ((mates[table] & tables) != 0) {
                    able |= bit(table);
                }
            }
            return able;
        }

        private static int withFewestMates(long[] mates, long tables) {
            int found = lowest(tables);
            for (long left = tables; left != 0; left &= left - 1) {
                int table = lowest(left);
                if (Long.bitCount(mates[table] & tables) < Long.bitCount(mates[found] & tables)) {
                    found = table;
                }
            }
            return found;
        }
    }

    /** CELLS filled into CLUSTERS; what was filled last is kept till the CELLS are others. */
    private static final class Clustering {
        private final Cells cells;
        final int[] clusterOf = new int[MOST_NODES];
        int size;
        private int filledCells;
        private int filledNets;
        // CELLS that are in no CLUSTER yet, and what the CLUSTER that is being filled has.
        private long left;
        private long netsIn;
        private long netsOut;

        Clustering(Cells cells) {
            this.cells = cells;
        }

        static boolean isLimit(int cells, int nets) {
            return cells >= 1 && cells <= MOST_CELLS && nets >= LEAST_NETS && nets <= MOST_NETS;
        }

        void forget() {
            filledCells = 0;
            filledNets = 0;
        }

        void fill(int mostCells, int mostNets) {
            if (mostCells == filledCells && mostNets == filledNets) {
                return;
            }
            filledCells = mostCells;
            filledNets = mostNets;
            left = bit(cells.size) - 1;
            size = 0;
            for (int round = 0; round < MOST_NODES && left != 0; round++) {
                netsIn = 0;
                netsOut = 0;
                take(withMostNetsIn());
                int next = bestToCome(mostNets);
                for (int many = 1; many < mostCells && next != NONE; many++) {
                    take(next);
                    next = bestToCome(mostNets);
                }
                size++;
            }
        }

        int countCrossing() {
            long crossing = 0;
            for (int from = 0; from < cells.size; from++) {
                for (int to = 0; to < cells.size; to++) {
                    if (clusterOf[from] != clusterOf[to]) {
                        crossing |= cells.netsOut(from) & cells.netsIn[to];
                    }
                }
            }
            return Long.bitCount(crossing);
        }

        private void take(int cell) {
            clusterOf[cell] = size;
            netsIn |= cells.netsIn[cell];
            netsOut |= cells.netsOut(cell);
            left &= ~bit(cell);
        }

        private int withMostNetsIn() {
            int found = lowest(left);
            for (long rest = left; rest != 0; rest &= rest - 1) {
                int cell = lowest(rest);
                if (Long.bitCount(cells.netsIn[cell]) > Long.bitCount(cells.netsIn[found])) {
                    found = cell;
                }
            }
            return found;
        }

        /** The CELL left that shares the most NETS and is not too much for the CLUSTER; NONE, if each would be. */
        private int bestToCome(int mostNets) {
            int best = NONE;
            int mostShared = NONE;
            for (long rest = left; rest != 0; rest &= rest - 1) {
                int cell = lowest(rest);
                long in = cells.netsIn[cell];
                long out = cells.netsOut(cell);
                int shared = Long.bitCount((in | out) & (netsIn | netsOut));
                int outside = Long.bitCount((netsIn | in) & ~(netsOut | out));
                if (shared > mostShared && outside <= mostNets) {
                    best = cell;
                    mostShared = shared;
                }
            }
            return best;
        }
    }
}
