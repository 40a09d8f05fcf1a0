import java.util.NoSuchElementException;

/** Each promise of the document by itself: ordinary inputs, its edges, wrong inputs. */
public final class PromisesTest {
    private static final int NONE = TableMapper.NONE;
    private static final int NOT = 0;
    private static final int AND = 1;
    private static final int OR = 2;
    private static final int XOR = 3;
    private static final int NAND = 4;
    private static final int PICK = 5;
    private static final int MOST = 6;
    private static final int[] WRONG_NODES = {NONE, -2, 40, 63, 64, 128, Integer.MAX_VALUE, Integer.MIN_VALUE};

    private static final Checks CHECKS = new Checks();

    public static void main(String[] args) {
        newObject();
        input();
        gate();
        gateKinds();
        register();
        feed();
        output();
        inputs();
        map();
        again();
        againWithSlack();
        againWithDue();
        set();
        clock();
        node();
        near();
        nearOfEqualCuts();
        cone();
        kept();
        keptInRow();
        isCut();
        depth();
        chosen();
        table();
        cares();
        holds();
        mapped();
        mostPairs();
        cell();
        packing();
        clusters();
        is();
        comes();
        differs();
        slow();
        count();
        allFortyNodes();
        CHECKS.end();
    }

    private static void due(String call, long got, long want) {
        CHECKS.due(call, got, want);
    }

    private static void due(String call, boolean got, boolean want) {
        CHECKS.due(call, got, want);
    }

    private static long set(int... nodes) {
        long bits = 0;
        for (int node : nodes) {
            bits |= 1L << node;
        }
        return bits;
    }

    private static TableMapper withInputs(int k, int inputs) {
        TableMapper x = new TableMapper();
        x.inputs(k);
        for (int i = 0; i < inputs; i++) {
            x.input();
        }
        return x;
    }

    private static boolean holdsThrows(TableMapper x, int gate) {
        try {
            x.holds(gate);
            return false;
        } catch (NoSuchElementException e) {
            return true;
        }
    }

    /**
     * With K 3, OUTPUTS 11 and 12: CHOSEN of 9 are 0, 1, 2; of 10 are 3, 4, 5; of 11 are 6, 10; of 12 are 6, 9, 10.
     * No two can be a PAIR, so the CELLS are 9, 10, 11, 12.
     */
    private static TableMapper fourTables() {
        TableMapper x = withInputs(3, 9);
        x.gate(MOST, 0, 1, 2);
        x.gate(MOST, 3, 4, 5);
        x.gate(AND, 10, 6, NONE);
        x.gate(XOR, 9, 11, NONE);
        x.output(11);
        x.output(12);
        return x;
    }

    /** With K 3: all of 5, 6, 7, 8 are TABLES, and with a SLACK of 1 the TABLE 5 can be spared. */
    private static TableMapper sparedBySlack() {
        TableMapper x = withInputs(3, 5);
        x.gate(OR, 4, 3, 0);
        x.gate(OR, 2, 5, 0);
        x.gate(XOR, 6, 1, 0);
        x.gate(AND, 7, 5, 0);
        x.output(7);
        x.output(8);
        return x;
    }

    /** Two INPUTS and some GATES of them, 12 OUTPUTS and a REGISTER for each GATE more. */
    private static TableMapper manyTables(int tables) {
        TableMapper x = withInputs(4, 2);
        for (int i = 0; i < tables; i++) {
            int gate = x.gate(1 + i % 4, 0, 1, 0);
            if (x.output(gate) == NONE) {
                x.feed(x.register(), gate);
            }
        }
        return x;
    }

    private static void newObject() {
        TableMapper x = new TableMapper();
        int[] counts = {0, 0, 0, 0, 0, 4, 0, 0};
        for (int what = 0; what < counts.length; what++) {
            due("1: count(" + what + ")", x.count(what), counts[what]);
        }
        due("1: depth()", x.depth(), 0);
        due("1: is(0)", x.is(0), NONE);
        due("1: mapped(0)", x.mapped(0), NONE);
        due("1: slow(0)", x.slow(0), NONE);
        TableMapper other = new TableMapper();
        other.input();
        due("1: another object's input", x.count(0), 0);
        due("1: NONE", NONE, -1);
    }

    private static void input() {
        TableMapper x = new TableMapper();
        for (int i = 0; i < 40; i++) {
            x.map();
            due("2: input()", x.input(), i);
            due("2: it is not MAPPED", x.count(6), 0);
            due("2: it is 0", x.is(i), 0);
        }
        x.map();
        due("2: 41st", x.input(), NONE);
        due("2: stays MAPPED", x.count(6), 1);
        due("2: 40 there are", x.count(1), 40);
    }

    private static void gate() {
        TableMapper x = withInputs(4, 3);
        x.map();
        due("3: kind -1", x.gate(-1, 0, 1, 2), NONE);
        due("3: kind 7", x.gate(7, 0, 1, 2), NONE);
        for (int wrong : WRONG_NODES) {
            due("3: NOT " + wrong, x.gate(NOT, wrong, 0, 0), NONE);
            due("3: AND " + wrong, x.gate(AND, wrong, 0, 0), NONE);
            due("3: AND 0, " + wrong, x.gate(AND, 0, wrong, 0), NONE);
            due("3: NAND 0, " + wrong, x.gate(NAND, 0, wrong, 0), NONE);
            due("3: PICK 0, 1, " + wrong, x.gate(PICK, 0, 1, wrong), NONE);
            due("3: MOST 0, " + wrong + ", 1", x.gate(MOST, 0, wrong, 1), NONE);
        }
        due("3: itself", x.gate(AND, 0, 3, 0), NONE);
        due("3: stays MAPPED", x.count(6), 1);
        due("3: NOT looks at one", x.gate(NOT, 2, NONE, 99), 3);
        due("3: it is not MAPPED", x.count(6), 0);
        due("3: AND looks at two", x.gate(AND, 2, 3, 99), 4);
        due("3: NAND looks at two", x.gate(NAND, 4, 4, -7), 5);
        due("3: MOST", x.gate(MOST, 5, 0, 5), 6);
        due("3: GATES", x.count(2), 4);
        while (x.count(0) < 39) {
            x.gate(NOT, 0, 0, 0);
        }
        due("3: 40th", x.gate(PICK, 38, 37, 36), 39);
        due("3: 41st", x.gate(NOT, 0, 0, 0), NONE);
    }

    private static void gateKinds() {
        for (int bits = 0; bits < 8; bits++) {
            TableMapper x = withInputs(4, 3);
            boolean a = (bits & 1) != 0;
            boolean b = (bits & 2) != 0;
            boolean c = (bits & 4) != 0;
            x.set(0, a);
            x.set(1, b);
            x.set(2, c);
            boolean[] want = {!a, a && b, a || b, a != b, !(a && b), a ? b : c, a ? b || c : b && c};
            for (int kind = 0; kind < want.length; kind++) {
                int gate = x.gate(kind, 0, 1, 2);
                due("3: kind " + kind + " of " + bits, x.is(gate), want[kind] ? 1 : 0);
                x.map();
                due("3: kind " + kind + " of " + bits + " by TABLES", x.comes(gate), want[kind] ? 1 : 0);
            }
        }
    }

    private static void register() {
        TableMapper x = new TableMapper();
        x.map();
        due("4: register()", x.register(), 0);
        due("4: it is not MAPPED", x.count(6), 0);
        due("4: FEED is itself", x.node(0, 2), 0);
        due("4: so it is a ROOT", x.count(7), 1);
        due("4: it is 0", x.is(0), 0);
        for (int i = 1; i < 40; i++) {
            due("4: register()", x.register(), i);
        }
        x.map();
        due("4: 41st", x.register(), NONE);
        due("4: stays MAPPED", x.count(6), 1);
        due("4: CELLS", x.mapped(4), 40);
        due("4: none is another one", x.clock(1), 0);
        due("23: each by itself", x.clusters(1, 6), 40);
        due("24: the last", x.cluster(1, 6, 39), 39);
        due("23: five times 8", x.clusters(8, 16), 5);
    }

    private static void feed() {
        TableMapper x = withInputs(4, 2);
        x.register();
        x.gate(AND, 0, 1, 0);
        x.map();
        for (int wrong : WRONG_NODES) {
            due("5: feed(" + wrong + ", 0)", x.feed(wrong, 0), false);
            due("5: feed(2, " + wrong + ")", x.feed(2, wrong), false);
        }
        due("5: an INPUT", x.feed(0, 1), false);
        due("5: a GATE", x.feed(3, 1), false);
        due("5: the next NODE", x.feed(2, 4), false);
        due("5: stays MAPPED", x.count(6), 1);
        due("5: FEED stays", x.node(2, 2), 2);
        due("5: a GATE told later", x.feed(2, 3), true);
        due("5: FEED", x.node(2, 2), 3);
        due("5: it is not MAPPED", x.count(6), 0);
        x.map();
        due("5: the same one", x.feed(2, 3), true);
        due("5: it is not MAPPED by the same one", x.count(6), 0);
        due("5: an INPUT as FEED", x.feed(2, 0), true);
        due("5: ROOTS", x.node(3, 6), 0);
        due("5: itself again", x.feed(2, 2), true);
        due("5: FEED itself", x.node(2, 2), 2);
    }

    private static void output() {
        TableMapper x = withInputs(4, 14);
        x.map();
        for (int wrong : WRONG_NODES) {
            due("6: output(" + wrong + ")", x.output(wrong), NONE);
        }
        due("6: the next NODE", x.output(14), NONE);
        due("6: stays MAPPED", x.count(6), 1);
        due("6: output(13)", x.output(13), 1);
        due("6: it is not MAPPED", x.count(6), 0);
        x.map();
        due("6: it is one", x.output(13), NONE);
        due("6: stays MAPPED by it", x.count(6), 1);
        for (int i = 0; i < 11; i++) {
            due("6: output(" + i + ")", x.output(i), i + 2);
        }
        due("6: 12 there are", x.count(4), 12);
        due("6: 13th", x.output(12), NONE);
        due("6: ROOTS", x.count(7), 12);
    }

    private static void inputs() {
        TableMapper x = new TableMapper();
        x.map();
        for (int wrong : new int[] {2, 7, 0, NONE, Integer.MAX_VALUE, Integer.MIN_VALUE}) {
            due("7: inputs(" + wrong + ")", x.inputs(wrong), NONE);
        }
        due("7: the same one", x.inputs(4), 4);
        due("7: stays MAPPED", x.count(6), 1);
        due("7: 3", x.inputs(3), 4);
        due("7: it is not MAPPED", x.count(6), 0);
        x.map();
        due("7: 6", x.inputs(6), 3);
        due("7: it is not MAPPED by 6", x.count(6), 0);
        due("7: back", x.inputs(3), 6);
        due("7: back does not make it MAPPED", x.count(6), 0);
        due("7: 5", x.inputs(5), 3);
        due("7: K", x.count(5), 5);
        TableMapper y = fourTables();
        due("7: LEVEL with K 3", y.node(12, 5), 2);
        y.inputs(6);
        due("7: LEVEL of 11 with K 6", y.node(11, 5), 1);
        due("7: LEVEL of 12 with K 6", y.node(12, 5), 2);
        y.inputs(3);
        due("7: LEVEL with K 3 again", y.node(11, 5), 2);
    }

    private static void map() {
        TableMapper x = new TableMapper();
        due("8: nothing", x.map(), 0);
        due("8: MAPPED", x.count(6), 1);
        x = withInputs(4, 2);
        x.output(0);
        due("8: an INPUT is no TABLE", x.map(), 0);
        x.gate(AND, 0, 1, 0);
        due("8: a GATE that is no ROOT is none", x.map(), 0);
        x.register();
        x.feed(3, 2);
        due("8: a FEED is one", x.map(), 1);
        due("8: four", fourTables().map(), 4);
        TableMapper y = sparedBySlack();
        due("8: map()", y.map(), 4);
        y.again(1);
        due("8: TABLES then", y.mapped(0), 3);
        due("8: map() starts anew", y.map(), 4);
        due("8: CHOSEN is the NEAR CUT again", y.chosen(8), set(1, 5, 6));
    }

    private static void again() {
        TableMapper x = withInputs(3, 4);
        due("9: it is not MAPPED", x.again(0), NONE);
        x.gate(AND, 0, 1, 0);
        x.gate(OR, 4, 2, 0);
        x.gate(XOR, 4, 3, 0);
        x.gate(AND, 5, 6, 0);
        x.output(7);
        due("9: TABLES", x.map(), 3);
        due("9: SLACK -1", x.again(-1), NONE);
        due("9: SLACK 6", x.again(6), NONE);
        due("9: SLACK far off", x.again(Integer.MIN_VALUE), NONE);
        due("9: as it was", x.chosen(7), set(5, 6));
        due("9: one fewer", x.again(0), 1);
        due("9: CHOSEN of 7", x.chosen(7), set(2, 3, 4));
        due("9: CHOSEN of 5, no TABLE then", x.chosen(5), set(0, 1, 2));
        due("9: TABLES", x.mapped(0), 2);
        due("9: no more", x.again(5), 0);
        due("9: stays MAPPED", x.count(6), 1);
        x.gate(NOT, 7, 0, 0);
        due("9: it is not MAPPED any more", x.again(0), NONE);
        TableMapper none = new TableMapper();
        none.map();
        due("9: no TABLE", none.again(0), 0);
    }

    private static void againWithSlack() {
        for (int slack = 0; slack <= 5; slack++) {
            TableMapper x = sparedBySlack();
            x.map();
            due("9: SLACK " + slack, x.again(slack), slack == 0 ? 0 : 1);
            due("9: CHOSEN of 8", x.chosen(8), slack == 0 ? set(1, 5, 6) : set(3, 4, 7));
            due("9: CHOSEN of 7 stays, of equal ones", x.chosen(7), set(1, 6));
            due("9: ARRIVAL", x.mapped(1), slack == 0 ? 2 : 3);
            due("9: DEPTH", x.depth(), 2);
            due("9: later than DUE, but CHOSEN in any case", x.again(0), 0);
            due("9: CHOSEN of 8 then", x.chosen(8), slack == 0 ? set(1, 5, 6) : set(3, 4, 7));
        }
    }

    /** 9 is a ROOT, but 11 is due one later than it: so it is due ahead of other ROOTS. */
    private static void againWithDue() {
        TableMapper x = withInputs(3, 5);
        x.gate(AND, 2, 0, 0);
        x.gate(MOST, 0, 2, 5);
        x.gate(AND, 1, 5, 0);
        x.gate(AND, 7, 4, 0);
        x.gate(AND, 8, 6, 0);
        x.gate(MOST, 3, 9, 3);
        x.gate(AND, 10, 3, 0);
        for (int node : new int[] {7, 8, 9, 11}) {
            x.output(node);
        }
        due("9: TABLES", x.map(), 5);
        due("9: DEPTH", x.depth(), 3);
        due("9: 9 would be too late for 11", x.again(0), 0);
        due("9: CHOSEN of 9", x.chosen(9), set(4, 6, 7));
        due("9: with a SLACK", x.again(1), 1);
        due("9: CHOSEN of 9 then", x.chosen(9), set(0, 2, 8));
        due("9: ARRIVAL of 11", x.mapped(1), 4);
        due("19: no TABLE", x.table(10, 0), 0);
        due("19: ARRIVAL of no TABLE", x.table(10, 1), 4);
    }

    private static void set() {
        TableMapper x = withInputs(4, 1);
        x.register();
        x.gate(NOT, 0, 0, 0);
        x.map();
        for (int wrong : WRONG_NODES) {
            due("10: set(" + wrong + ")", x.set(wrong, true), NONE);
        }
        due("10: a REGISTER", x.set(1, true), NONE);
        due("10: a GATE", x.set(2, true), NONE);
        due("10: the next NODE", x.set(3, true), NONE);
        due("10: it was 0", x.set(0, true), 0);
        due("10: it was 1", x.set(0, true), 1);
        due("10: is(0)", x.is(0), 1);
        due("10: is(1)", x.is(1), 0);
        due("10: off", x.set(0, false), 1);
        due("10: is(0) off", x.is(0), 0);
        due("10: stays MAPPED", x.count(6), 1);
    }

    private static void clock() {
        TableMapper x = withInputs(4, 1);
        for (int i = 0; i < 3; i++) {
            x.register();
        }
        x.feed(1, 0);
        x.feed(2, 1);
        x.feed(3, 2);
        x.set(0, true);
        for (int wrong : new int[] {0, NONE, 65, Integer.MAX_VALUE, Integer.MIN_VALUE}) {
            due("11: clock(" + wrong + ")", x.clock(wrong), NONE);
        }
        due("11: as it was", x.is(1), 0);
        due("11: all at once", x.clock(1), 1);
        due("11: is(1)", x.is(1), 1);
        due("11: is(2)", x.is(2), 0);
        x.set(0, false);
        due("11: the next", x.clock(1), 2);
        due("11: is(2) then", x.is(2), 1);
        due("11: is(1) then", x.is(1), 0);
        x.set(0, true);
        due("11: by the last one alone", x.clock(4), 0);
        due("11: all are 1", x.is(3), 1);
        TableMapper y = new TableMapper();
        y.register();
        y.gate(NOT, 0, 0, 0);
        y.feed(0, 1);
        y.map();
        due("11: 64", y.clock(64), 1);
        due("11: 64 times over", y.is(0), 0);
        due("11: 63", y.clock(63), 1);
        due("11: 63 times over", y.is(0), 1);
        due("11: the GATE", y.is(1), 0);
        due("11: stays MAPPED", y.count(6), 1);
    }

    private static void node() {
        TableMapper x = withInputs(3, 2);
        x.register();
        x.gate(PICK, 2, 0, 1);
        x.gate(XOR, 3, 3, 1);
        x.gate(NOT, 4, 0, 0);
        x.feed(2, 5);
        int[][] want = {
            {0, NONE, NONE, NONE, NONE, 0, 0, 0},
            {0, NONE, NONE, NONE, NONE, 0, 0, 0},
            {2, NONE, 5, NONE, NONE, 0, 0, 0},
            {1, PICK, 2, 0, 1, 1, 0, 3},
            {1, XOR, 3, 3, NONE, 1, 0, 4},
            {1, NOT, 4, NONE, NONE, 1, 1, 5}};
        for (int node = 0; node < want.length; node++) {
            for (int what = 0; what < 8; what++) {
                due("12: node(" + node + ", " + what + ")", x.node(node, what), want[node][what]);
            }
            due("12: what 8", x.node(node, 8), NONE);
            due("12: what -1", x.node(node, NONE), NONE);
        }
        for (int wrong : WRONG_NODES) {
            due("12: node(" + wrong + ", 0)", x.node(wrong, 0), NONE);
        }
        due("12: the next NODE", x.node(6, 0), NONE);
        x.output(1);
        due("12: an OUTPUT is a ROOT", x.node(1, 6), 1);
        due("12: LEVEL 2", fourTables().node(11, 5), 2);
    }

    private static void near() {
        TableMapper x = fourTables();
        int[][] want = {{0, 1, 2}, {3, 4, 5}, {6, 10}, {6, 9, 10}};
        for (int g = 0; g < want.length; g++) {
            due("13: how many", x.near(9 + g, NONE), want[g].length);
            for (int i = 0; i < want[g].length; i++) {
                due("13: near(" + (9 + g) + ", " + i + ")", x.near(9 + g, i), want[g][i]);
            }
            due("13: none such", x.near(9 + g, want[g].length), NONE);
            due("13: -2", x.near(9 + g, -2), NONE);
            due("13: far off", x.near(9 + g, Integer.MAX_VALUE), NONE);
        }
        due("13: an INPUT", x.near(0, NONE), NONE);
        for (int wrong : WRONG_NODES) {
            due("13: near(" + wrong + ", NONE)", x.near(wrong, NONE), NONE);
        }
    }

    private static void nearOfEqualCuts() {
        TableMapper x = withInputs(4, 2);
        x.gate(AND, 0, 1, 0);
        x.gate(NOT, 2, 0, 0);
        x.gate(NOT, 3, 0, 0);
        due("13: of a chain the LEVEL comes first", x.near(4, 0), 0);
        due("13: how many", x.near(4, NONE), 2);
        x = withInputs(3, 4);
        x.gate(MOST, 0, 1, 2);
        x.gate(AND, 4, 3, 0);
        x.gate(NOT, 5, 0, 0);
        x.gate(NOT, 6, 0, 0);
        due("13: LEVEL 2", x.node(7, 5), 2);
        due("13: by LEVEL 1 alone", x.near(7, 0), 3);
        due("13: and 4", x.near(7, 1), 4);
        x = withInputs(3, 1);
        x.gate(NOT, 0, 0, 0);
        x.gate(OR, 0, 1, 0);
        x.gate(XOR, 2, 1, 0);
        due("13: one NODE is fewest", x.near(3, NONE), 1);
        due("13: that INPUT", x.near(3, 0), 0);
        x = withInputs(3, 2);
        x.register();
        x.feed(2, 2);
        x.gate(AND, 2, 0, 0);
        due("13: a REGISTER is a LEAF", x.near(3, 1), 2);
    }

    private static void cone() {
        TableMapper x = fourTables();
        int[] want = {1, 1, 1, 2};
        for (int g = 0; g < want.length; g++) {
            due("14: cone(" + (9 + g) + ")", x.cone(9 + g), want[g]);
        }
        due("14: an INPUT", x.cone(0), NONE);
        for (int wrong : WRONG_NODES) {
            due("14: cone(" + wrong + ")", x.cone(wrong), NONE);
        }
        due("14: the next NODE", x.cone(13), NONE);
        x.inputs(6);
        due("14: with K 6", x.cone(11), 2);
        TableMapper y = withInputs(3, 1);
        y.gate(NOT, 0, 0, 0);
        y.gate(AND, 1, 0, 0);
        y.gate(OR, 1, 2, 0);
        due("14: each GATE once", y.cone(3), 3);
    }

    private static void kept() {
        TableMapper x = withInputs(6, 8);
        x.gate(AND, 0, 1, 0);
        x.gate(AND, 2, 3, 0);
        x.gate(AND, 4, 5, 0);
        x.gate(MOST, 8, 9, 10);
        x.gate(XOR, 11, 6, 0);
        long[] ofEleven = {set(0, 1, 2, 3, 4, 5), set(8, 9, 10), set(0, 1, 9, 10), set(2, 3, 8, 10), set(4, 5, 8, 9),
            set(0, 1, 2, 3, 10), set(0, 1, 4, 5, 9), set(2, 3, 4, 5, 8)};
        for (int c = 0; c < 8; c++) {
            due("15: kept(11, " + c + ")", x.kept(11, c), ofEleven[c]);
        }
        // The six INPUTS with one more are too many.
        long[] ofTwelve = {set(6, 11), set(6, 8, 9, 10), set(0, 1, 6, 9, 10), set(2, 3, 6, 8, 10), set(4, 5, 6, 8, 9),
            set(0, 1, 2, 3, 6, 10), set(0, 1, 4, 5, 6, 9), set(2, 3, 4, 5, 6, 8)};
        for (int c = 0; c < 8; c++) {
            due("15: kept(12, " + c + ")", x.kept(12, c), ofTwelve[c]);
        }
        due("15: 8 at most", x.kept(12, 8), 0);
        due("15: c -1", x.kept(12, NONE), 0);
        due("15: c far off", x.kept(12, Integer.MAX_VALUE), 0);
        due("15: none such", x.kept(8, 1), 0);
        due("15: an INPUT", x.kept(0, 0), 0);
        for (int wrong : WRONG_NODES) {
            due("15: kept(" + wrong + ", 0)", x.kept(wrong, 0), 0);
        }
        x.gate(AND, 12, 7, 0);
        long[] ofThirteen = {set(6, 7, 11), set(6, 7, 8, 9, 10), set(0, 1, 6, 7, 9, 10), set(2, 3, 6, 7, 8, 10),
            set(4, 5, 6, 7, 8, 9), set(7, 12), 0};
        for (int c = 0; c < ofThirteen.length; c++) {
            due("15: kept(13, " + c + ")", x.kept(13, c), ofThirteen[c]);
        }
        // Twelve there are: those with five NODES are left out.
        x.gate(MOST, 8, 9, 11);
        long[] ofFourteen = {set(0, 1, 2, 3, 4, 5), set(8, 9, 10), set(8, 9, 11), set(0, 1, 9, 10), set(0, 1, 9, 11),
            set(2, 3, 8, 10), set(2, 3, 8, 11), set(4, 5, 8, 9), 0};
        for (int c = 0; c < ofFourteen.length; c++) {
            due("15: kept(14, " + c + ")", x.kept(14, c), ofFourteen[c]);
        }
    }

    private static void keptInRow() {
        TableMapper x = withInputs(3, 4);
        x.gate(AND, 0, 1, 0);
        x.gate(OR, 4, 2, 0);
        x.gate(XOR, 4, 3, 0);
        x.gate(AND, 5, 6, 0);
        long[] want = {set(5, 6), set(2, 3, 4), set(2, 4, 6), set(3, 4, 5), 0};
        for (int c = 0; c < want.length; c++) {
            due("15: kept(7, " + c + ")", x.kept(7, c), want[c]);
        }
        x.gate(NAND, 7, 7, 0);
        due("15: one SOURCE twice: by the lower LEVEL", x.kept(8, 0), set(5, 6));
        due("15: one SOURCE twice: the last is it alone", x.kept(8, 4), set(7));
        due("15: one SOURCE twice: no more", x.kept(8, 5), 0);
        x = withInputs(3, 1);
        x.gate(NOT, 0, 0, 0);
        x.gate(AND, 0, 1, 0);
        due("15: without those with more NODES", x.kept(2, 0), set(0));
        due("15: as 0 and 1 have 0", x.kept(2, 1), 0);
        x = withInputs(3, 4);
        x.gate(XOR, 0, 1, 0);
        x.gate(MOST, 4, 2, 3);
        due("15: with K 3", x.kept(5, 0), set(2, 3, 4));
        due("15: with K 3, no more", x.kept(5, 1), 0);
        x.inputs(4);
        due("15: with K 4", x.kept(5, 0), set(0, 1, 2, 3));
        due("15: with K 4, next", x.kept(5, 1), set(2, 3, 4));
        x.inputs(3);
        due("15: with K 3 again", x.kept(5, 0), set(2, 3, 4));
    }

    private static void isCut() {
        TableMapper x = fourTables();
        due("16: NEAR CUT", x.isCut(12, set(6, 9, 10)), true);
        due("16: SOURCES", x.isCut(12, set(9, 11)), true);
        due("16: one to spare", x.isCut(12, set(9, 10, 11)), true);
        due("16: a way is left", x.isCut(12, set(9, 10)), false);
        due("16: more than K", x.isCut(12, set(6, 9, 10, 11)), false);
        x.inputs(4);
        due("16: K 4", x.isCut(12, set(6, 9, 10, 11)), true);
        due("16: LEAVES", x.isCut(11, set(3, 4, 5, 6)), true);
        due("16: one not BELOW", x.isCut(11, set(6, 7, 10)), false);
        due("16: itself", x.isCut(11, set(11)), false);
        due("16: itself, too", x.isCut(11, set(6, 10, 11)), false);
        due("16: nothing", x.isCut(11, 0), false);
        due("16: no such NODE", x.isCut(11, set(6, 10, 40)), false);
        due("16: bit 63", x.isCut(11, set(6, 10, 63)), false);
        due("16: all bits", x.isCut(11, -1L), false);
        due("16: an INPUT", x.isCut(0, 0), false);
        due("16: an INPUT by itself", x.isCut(0, 1), false);
        for (int wrong : WRONG_NODES) {
            due("16: isCut(" + wrong + ")", x.isCut(wrong, 1), false);
        }
        x = withInputs(3, 1);
        x.register();
        x.gate(AND, 0, 1, 0);
        x.feed(1, 2);
        due("16: a way ends at a REGISTER", x.isCut(2, set(0)), false);
        due("16: a REGISTER", x.isCut(2, set(0, 1)), true);
    }

    private static void depth() {
        TableMapper x = withInputs(3, 4);
        x.output(0);
        due("17: an INPUT", x.depth(), 0);
        x.gate(MOST, 0, 1, 2);
        x.gate(AND, 4, 3, 0);
        due("17: no ROOT", x.depth(), 0);
        x.output(4);
        due("17: one", x.depth(), 1);
        x.register();
        x.feed(6, 5);
        due("17: a FEED", x.depth(), 2);
        x.inputs(4);
        due("17: K 4", x.depth(), 1);
        due("17: nothing is MAPPED by it", x.count(6), 0);
    }

    private static void chosen() {
        TableMapper x = fourTables();
        due("18: it is not MAPPED", x.chosen(12), 0);
        x.map();
        due("18: chosen(12)", x.chosen(12), set(6, 9, 10));
        due("18: an INPUT", x.chosen(0), 0);
        for (int wrong : WRONG_NODES) {
            due("18: chosen(" + wrong + ")", x.chosen(wrong), 0);
        }
        due("18: the next NODE", x.chosen(13), 0);
        x.inputs(3);
        due("18: stays", x.chosen(11), set(6, 10));
        x.inputs(4);
        due("18: K is another one", x.chosen(11), 0);
        x.map();
        due("18: a GATE that is no TABLE", x.chosen(10), set(3, 4, 5));
        due("18: no TABLE", x.table(10, 0), 0);
    }

    private static void table() {
        TableMapper x = fourTables();
        due("19: it is not MAPPED", x.table(12, 0), NONE);
        x.map();
        int[][] want = {
            {1, 1, 1, NONE, 0, 7}, {1, 1, 2, NONE, 1, 7}, {1, 2, 0, NONE, 2, 3}, {1, 2, 0, NONE, 3, 7}};
        for (int g = 0; g < want.length; g++) {
            for (int what = 0; what < 6; what++) {
                due("19: table(" + (9 + g) + ", " + what + ")", x.table(9 + g, what), want[g][what]);
            }
            due("19: what 6", x.table(9 + g, 6), NONE);
            due("19: what -1", x.table(9 + g, NONE), NONE);
        }
        due("19: an INPUT", x.table(6, 2), NONE);
        for (int wrong : WRONG_NODES) {
            due("19: table(" + wrong + ", 0)", x.table(wrong, 0), NONE);
        }
        x.inputs(4);
        x.map();
        int[] ofTen = {0, 1, 0, NONE, NONE, 7};
        for (int what = 0; what < ofTen.length; what++) {
            due("19: no TABLE, what " + what, x.table(10, what), ofTen[what]);
        }
        TableMapper y = withInputs(4, 4);
        y.output(y.gate(MOST, 0, 1, 2));
        y.output(y.gate(AND, 2, 3, 0));
        y.output(y.gate(OR, 0, 1, 0));
        y.output(y.gate(XOR, 0, 2, 0));
        y.map();
        int[] partners = {6, 7, 4, 5};
        for (int g = 0; g < partners.length; g++) {
            due("19: with which it is PAIRED " + (4 + g), y.table(4 + g, 3), partners[g]);
            due("19: CELL of " + (4 + g), y.table(4 + g, 4), g % 2);
        }
    }

    private static void cares() {
        TableMapper x = withInputs(4, 3);
        x.gate(XOR, 0, 1, 0);
        x.gate(XOR, 3, 1, 0);
        x.gate(AND, 4, 2, 0);
        x.output(5);
        x.map();
        due("19: CHOSEN", x.chosen(5), set(0, 1, 2));
        due("19: not on 1", x.table(5, 5), 5);
        x.gate(XOR, 0, 0, 0);
        x.map();
        due("19: on none", x.table(6, 5), 0);
        x.gate(OR, 1, 2, 0);
        x.map();
        due("19: by the place", x.table(7, 5), 3);
    }

    private static void holds() {
        TableMapper x = withInputs(6, 7);
        x.gate(AND, 0, 1, 0);
        x.gate(AND, 2, 3, 0);
        x.gate(AND, 4, 5, 0);
        x.gate(AND, 7, 8, 0);
        x.gate(AND, 9, 10, 0);
        x.gate(NOT, 11, 0, 0);
        x.gate(PICK, 5, 3, 1);
        x.gate(NOT, 6, 0, 0);
        due("20: it is not MAPPED", holdsThrows(x, 11), true);
        x.map();
        due("20: 64 bits", x.holds(11), Long.MIN_VALUE);
        due("20: 64 bits, NOT", x.holds(12), Long.MAX_VALUE);
        due("20: 2 NODES", x.holds(7), 8);
        due("20: 4 NODES", x.holds(10), 1L << 15);
        due("20: PICK, NODES upwards", x.holds(13), 0b11001010);
        due("20: 1 NODE", x.holds(14), 1);
        due("20: an INPUT", holdsThrows(x, 0), true);
        for (int wrong : WRONG_NODES) {
            due("20: holds(" + wrong + ")", holdsThrows(x, wrong), true);
        }
        due("20: the next NODE", holdsThrows(x, 15), true);
        x.output(11);
        due("20: it is not MAPPED any more", holdsThrows(x, 11), true);
        TableMapper y = sparedBySlack();
        y.map();
        // 5 and (1 other than 6), by 1, 5, 6.
        due("20: by the NEAR CUT", y.holds(8), 1 << 3 | 1 << 6);
        y.again(1);
        // 7 and (3 or 4), by 3, 4, 7.
        due("20: by another CHOSEN", y.holds(8), 1 << 5 | 1 << 6 | 1 << 7);
        // A CUT may have a NODE and one BELOW it: each is by itself then.
        TableMapper z = withInputs(3, 4);
        z.gate(MOST, 0, 1, 2);
        z.gate(PICK, 4, 0, 3);
        z.gate(XOR, 4, 0, 0);
        z.map();
        due("20: CHOSEN with 0 and 4", z.chosen(5), set(0, 3, 4));
        due("20: by 0, 3, 4", z.holds(5), 0b10101100);
        due("20: XOR of MOST and 0, by 0, 1, 2", z.holds(6), 0b01000010);
    }

    private static void mapped() {
        TableMapper x = fourTables();
        due("21: it is not MAPPED", x.mapped(0), NONE);
        x.map();
        int[] want = {4, 2, 0, 0, 4, 0};
        for (int what = 0; what < want.length; what++) {
            due("21: mapped(" + what + ")", x.mapped(what), want[what]);
        }
        due("21: what 6", x.mapped(6), NONE);
        due("21: what -1", x.mapped(NONE), NONE);
        TableMapper none = new TableMapper();
        none.map();
        for (int what = 0; what < 6; what++) {
            due("21: of nothing, what " + what, none.mapped(what), 0);
        }
    }

    private static void mostPairs() {
        TableMapper x = withInputs(3, 3);
        x.gate(XOR, 0, 0, 0);
        x.gate(AND, 3, 0, 0);
        x.gate(AND, 1, 4, 0);
        x.gate(XOR, 2, 0, 0);
        for (int gate = 3; gate < 7; gate++) {
            x.output(gate);
        }
        x.map();
        due("21: PAIRS", x.mapped(2), 1);
        due("21: PAIRED", x.table(3, 3), 4);
        due("21: MOST PAIRS", x.mapped(3), 2);
        TableMapper y = manyTables(14);
        due("21: 14 TABLES", y.map(), 14);
        due("21: MOST PAIRS of 14", y.mapped(3), 7);
        y = manyTables(15);
        due("21: 15 TABLES", y.map(), 15);
        due("21: MOST PAIRS of 15", y.mapped(3), NONE);
        due("21: PAIRS of 15", y.mapped(2), 7);
        y = manyTables(13);
        y.map();
        due("21: MOST PAIRS of 13", y.mapped(3), 6);
        TableMapper z = withInputs(3, 3);
        z.gate(MOST, 0, 1, 2);
        z.gate(AND, 3, 3, 0);
        z.output(3);
        z.output(4);
        z.map();
        due("21: CHOSEN of three NODES are no PAIR with K 3", z.mapped(2), 0);
        z.inputs(4);
        z.map();
        due("21: they are with K 4", z.mapped(2), 1);
        z = withInputs(4, 5);
        z.gate(MOST, 0, 1, 2);
        z.gate(MOST, 5, 3, 4);
        z.gate(AND, 5, 3, 0);
        z.output(5);
        z.output(6);
        z.map();
        due("21: 5 is in the CHOSEN of 6", z.chosen(6), set(3, 4, 5));
        due("21: so they are no PAIR", z.mapped(3), 0);
    }

    private static void cell() {
        TableMapper x = withInputs(4, 2);
        for (int i = 0; i < 3; i++) {
            x.register();
        }
        x.gate(AND, 0, 1, 0);
        x.gate(OR, 0, 1, 0);
        x.gate(XOR, 0, 1, 0);
        x.feed(2, 6);
        x.feed(3, 5);
        x.feed(4, 7);
        x.output(7);
        due("22: it is not MAPPED", x.cell(0, 0), -2);
        x.map();
        int[][] want = {{5, 6, 2, 3, 2}, {7, NONE, NONE, NONE, 2}, {NONE, NONE, 4, NONE, 1}};
        for (int cell = 0; cell < want.length; cell++) {
            for (int what = 0; what < 5; what++) {
                due("22: cell(" + cell + ", " + what + ")", x.cell(cell, what), want[cell][what]);
            }
            due("22: what 5", x.cell(cell, 5), -2);
            due("22: what -1", x.cell(cell, NONE), -2);
        }
        due("22: no such CELL", x.cell(3, 0), -2);
        due("22: CELL -1", x.cell(NONE, 0), -2);
        due("22: CELL far off", x.cell(Integer.MAX_VALUE, 0), -2);
        x.register();
        due("22: it is not MAPPED any more", x.cell(0, 0), -2);
        x.map();
        due("22: a REGISTER that is its own FEED", x.cell(3, 2), 8);
        due("22: its NETS IN", x.cell(3, 4), 1);
    }

    private static void packing() {
        TableMapper x = withInputs(3, 4);
        x.gate(MOST, 0, 1, 2);
        x.register();
        x.feed(5, 4);
        x.map();
        due("22: packed", x.mapped(5), 1);
        due("22: into the CELL of its FEED", x.cell(0, 2), 5);
        due("22: CELLS", x.mapped(4), 1);
        x.gate(AND, 4, 3, 0);
        x.output(6);
        x.map();
        due("22: not packed, the FEED has USES", x.mapped(5), 0);
        due("22: by itself", x.cell(2, 2), 5);
        x.inputs(4);
        x.map();
        due("22: packed, no USES then", x.mapped(5), 1);
        x.register();
        x.feed(7, 4);
        x.map();
        due("22: not packed, the FEED of another one", x.mapped(5), 0);
        x.feed(7, 3);
        x.map();
        due("22: packed again, but not the one with an INPUT", x.mapped(5), 1);
        x.output(4);
        x.map();
        due("22: not packed, an OUTPUT", x.mapped(5), 0);
        due("22: CELLS then", x.mapped(4), 4);
        due("22: REGISTERS by numbers", x.cell(2, 2), 5);
        due("22: REGISTERS by numbers, next", x.cell(3, 2), 7);
    }

    private static void clusters() {
        TableMapper x = fourTables();
        due("23: it is not MAPPED", x.clusters(2, 6), NONE);
        due("24: it is not MAPPED", x.cluster(2, 6, 0), NONE);
        due("25: it is not MAPPED", x.cross(2, 6), NONE);
        x.map();
        checkClusters(x, 1, 6, new int[] {0, 1, 3, 2}, 2);
        checkClusters(x, 2, 6, new int[] {0, 1, 1, 0}, 1);
        checkClusters(x, 8, 6, new int[] {0, 1, 0, 0}, 1);
        checkClusters(x, 8, 7, new int[] {0, 0, 0, 0}, 0);
        checkClusters(x, 8, 16, new int[] {0, 0, 0, 0}, 0);
        checkClusters(x, 3, 16, new int[] {0, 1, 0, 0}, 1);
        int[][] wrong = {{0, 6}, {9, 6}, {1, 5}, {1, 17}, {NONE, 6}, {1, NONE}, {Integer.MIN_VALUE, 6},
            {1, Integer.MAX_VALUE}};
        for (int[] limit : wrong) {
            due("23: clusters(" + limit[0] + ", " + limit[1] + ")", x.clusters(limit[0], limit[1]), NONE);
            due("24: cluster(" + limit[0] + ", " + limit[1] + ", 0)", x.cluster(limit[0], limit[1], 0), NONE);
            due("25: cross(" + limit[0] + ", " + limit[1] + ")", x.cross(limit[0], limit[1]), NONE);
        }
        due("24: no such CELL", x.cluster(2, 6, 4), NONE);
        due("24: CELL -1", x.cluster(2, 6, NONE), NONE);
        due("24: CELL far off", x.cluster(2, 6, Integer.MIN_VALUE), NONE);
        TableMapper none = new TableMapper();
        none.map();
        due("23: no CELL", none.clusters(1, 6), 0);
        due("25: no CELL", none.cross(1, 6), 0);
        due("24: no CELL", none.cluster(1, 6, 0), NONE);
        TableMapper y = withInputs(4, 0);
        while (y.register() < 8) {
            due("23: it is not MAPPED", y.clusters(8, 6), NONE);
        }
        for (int i = 0; i < 9; i++) {
            y.feed(i, (i + 8) % 9);
        }
        y.map();
        checkClusters(y, 8, 6, new int[] {0, 0, 0, 0, 0, 0, 0, 0, 1}, 2);
        due("25: each by itself, in a ring", y.cross(1, 6), 9);
        y.feed(8, 0);
        y.map();
        // Of 8 both NETS are of the CLUSTER that 0 begins, so it comes ahead of 1.
        checkClusters(y, 8, 6, new int[] {0, 0, 0, 0, 0, 0, 0, 1, 0}, 1);
        due("25: each by itself, but 7 leads nowhere", y.cross(1, 6), 8);
    }

    private static void checkClusters(TableMapper x, int cells, int nets, int[] want, int cross) {
        String limit = "(" + cells + ", " + nets + ")";
        int most = 0;
        for (int cell = 0; cell < want.length; cell++) {
            due("24: cluster" + limit + " of " + cell, x.cluster(cells, nets, cell), want[cell]);
            most = Math.max(most, want[cell]);
        }
        due("23: clusters" + limit, x.clusters(cells, nets), most + 1);
        due("25: cross" + limit, x.cross(cells, nets), cross);
    }

    private static void is() {
        TableMapper x = withInputs(4, 2);
        x.register();
        x.gate(OR, 0, 2, 0);
        x.feed(2, 3);
        for (int wrong : WRONG_NODES) {
            due("26: is(" + wrong + ")", x.is(wrong), NONE);
        }
        due("26: the next NODE", x.is(4), NONE);
        due("26: at first", x.is(3), 0);
        x.set(0, true);
        due("26: an INPUT", x.is(0), 1);
        due("26: a GATE", x.is(3), 1);
        due("26: a REGISTER", x.is(2), 0);
        x.clock(1);
        x.set(0, false);
        due("26: a REGISTER then", x.is(2), 1);
        due("26: a GATE by it", x.is(3), 1);
    }

    private static void comes() {
        TableMapper x = fourTables();
        due("27: it is not MAPPED", x.comes(0), NONE);
        x.map();
        for (int wrong : WRONG_NODES) {
            due("27: comes(" + wrong + ")", x.comes(wrong), NONE);
        }
        due("27: the next NODE", x.comes(13), NONE);
        for (int bits = 0; bits < 128; bits++) {
            // 512 calls are the most that an object is used for.
            if (bits % 32 == 0) {
                x = fourTables();
                x.map();
            }
            for (int i = 0; i < 7; i++) {
                x.set(i, (bits >> i & 1) != 0);
            }
            int nine = Integer.bitCount(bits & 7) >= 2 ? 1 : 0;
            int eleven = Integer.bitCount(bits & 56) >= 2 && bits >= 64 ? 1 : 0;
            due("27: 9 by " + bits, x.comes(9), nine);
            due("27: 12 by " + bits, x.comes(12), nine ^ eleven);
            due("27: an INPUT by " + bits, x.comes(5), bits >> 5 & 1);
        }
        TableMapper y = new TableMapper();
        y.register();
        y.gate(NOT, 0, 0, 0);
        y.feed(0, 1);
        y.map();
        due("27: a GATE", y.comes(1), 1);
        y.clock(1);
        due("27: a REGISTER", y.comes(0), 1);
        due("27: a GATE then", y.comes(1), 0);
    }

    private static void differs() {
        TableMapper x = withInputs(4, 3);
        x.register();
        x.gate(PICK, 0, 1, 2);
        x.gate(AND, 4, 3, 0);
        x.feed(3, 0);
        due("28: the one picked", x.differs(4, 2), 1);
        due("28: the one not picked", x.differs(4, 1), 0);
        due("28: which to pick, both are 0", x.differs(4, 0), 0);
        x.set(2, true);
        due("28: which to pick, one is 1", x.differs(4, 0), 1);
        due("28: AND with a REGISTER that is 0", x.differs(5, 2), 0);
        due("28: a REGISTER hangs on none till a CLOCK", x.differs(3, 0), 0);
        due("28: itself", x.differs(1, 1), 1);
        due("28: another INPUT", x.differs(1, 2), 0);
        due("28: nothing is changed", x.is(2), 1);
        due("28: no INPUT", x.differs(4, 3), NONE);
        due("28: a GATE", x.differs(4, 4), NONE);
        for (int wrong : WRONG_NODES) {
            due("28: differs(" + wrong + ", 0)", x.differs(wrong, 0), NONE);
            due("28: differs(0, " + wrong + ")", x.differs(0, wrong), NONE);
        }
        due("28: the next NODE", x.differs(6, 0), NONE);
    }

    private static void slow() {
        TableMapper x = fourTables();
        due("29: it is not MAPPED", x.slow(0), NONE);
        x.map();
        int[] want = {11, 10, 3, NONE, NONE};
        for (int i = 0; i < want.length; i++) {
            due("29: slow(" + i + ")", x.slow(i), want[i]);
        }
        due("29: -1", x.slow(NONE), NONE);
        due("29: 40", x.slow(40), NONE);
        due("29: far off", x.slow(Integer.MAX_VALUE), NONE);
        due("29: far below", x.slow(Integer.MIN_VALUE), NONE);
        TableMapper y = withInputs(4, 3);
        y.gate(AND, 0, 1, 0);
        y.map();
        due("29: no ROOT", y.slow(0), NONE);
        y.output(2);
        y.output(1);
        y.map();
        due("29: a LEAF", y.slow(0), 1);
        due("29: no further", y.slow(1), NONE);
        TableMapper z = sparedBySlack();
        z.map();
        due("29: the lowest ROOT", z.slow(0), 7);
        z.again(1);
        due("29: by ARRIVAL", z.slow(0), 8);
        due("29: and on", z.slow(1), 7);
        due("29: and on, 6", z.slow(2), 6);
        due("29: and on, 2", z.slow(3), 2);
        due("29: no further", z.slow(4), NONE);
    }

    private static void count() {
        TableMapper x = withInputs(5, 3);
        x.register();
        x.register();
        x.gate(AND, 0, 1, 0);
        x.feed(3, 5);
        x.feed(4, 5);
        x.output(5);
        x.output(1);
        int[] want = {6, 3, 1, 2, 2, 5, 0, 2};
        for (int what = 0; what < want.length; what++) {
            due("30: count(" + what + ")", x.count(what), want[what]);
        }
        x.map();
        due("30: MAPPED", x.count(6), 1);
        for (int wrong : new int[] {8, NONE, -2, Integer.MAX_VALUE, Integer.MIN_VALUE}) {
            due("30: count(" + wrong + ")", x.count(wrong), NONE);
        }
    }

    /** A chain of 38 GATES, each of its two predecessors. */
    private static void allFortyNodes() {
        TableMapper x = withInputs(3, 2);
        for (int i = 2; i < 40; i++) {
            due("3: gate", x.gate(i % 2 == 0 ? NAND : XOR, i - 1, i - 2, 0), i);
        }
        due("12: BELOW the last", x.node(39, 7), 39);
        due("12: LEVEL of the last", x.node(39, 5), 1);
        due("13: the two INPUTS", x.near(39, NONE), 2);
        due("14: all GATES", x.cone(39), 38);
        due("15: the first", x.kept(39, 0), set(0, 1));
        due("16: the last two", x.isCut(39, set(37, 38)), true);
        due("16: bit 38 alone", x.isCut(39, set(38)), false);
        x.output(39);
        due("8: one TABLE", x.map(), 1);
        x.set(0, true);
        for (int node = 0; node < 40; node++) {
            due("27: as it is", x.comes(node), x.is(node));
        }
    }
}
