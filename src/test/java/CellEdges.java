/** Boundary cases of promises 21 to 25: PAIRS, CELLS and CLUSTERS. */
final class CellEdges {
    private static final String WRONG = Script.WRONG;

    /** With K 3: CHOSEN of 9 are 0, 1, 2; of 10 are 3, 4, 5; of 11 are 6, 10; of 12 are 6, 9, 10. No two are a PAIR. */
    private static final String FOUR_CELLS = """
        inputs(3); 9 * input(); gate(MOST, 0, 1, 2); gate(MOST, 3, 4, 5); gate(AND, 10, 6, 0); gate(XOR, 9, 11, 0)
        output([11 12])
        """;

    /** CELLS: 5 and 6 with 2 and 3 packed in; 7; the REGISTER 4. */
    private static final String THREE_CELLS = """
        2 * input(); 3 * register(); gate([1..3], 0, 1, 0); feed(2, 6); feed(3, 5); feed(4, 7); output(7)
        """;

    private CellEdges() {
    }

    static void all(Edges edges) {
        pair(edges);
        paired(edges);
        mostPairs(edges);
        cell(edges);
        cells(edges);
        packed(edges);
        nets(edges);
        clusters(edges);
        filling(edges);
        cluster(edges);
        cross(edges);
    }

    private static void pair(Edges edges) {
        edges.sentence(21, "PAIR: two TABLES, of which none is in the CHOSEN of the other one, with K - 1 NODES at "
                + "most in both CHOSEN together.");
        String none = "; map() = 2; mapped([2..4]) = 0 0 2; table([6 7], 3) = -1\n";
        String one = "; map() = 2; mapped([2..4]) = 1 1 1; table([6 7], 3) = 7 6\n";
        edges.run("2 NODES with K 3", "6 * input(); gate([1 2], 0, 1, 0); output([6 7]); inputs(3)" + one);
        edges.run("3 NODES with K 3 and 4", "6 * input(); gate(AND, [0 1], 2, 0); output([6 7]); inputs(3)" + none
                + "inputs(4)" + one);
        edges.run("4 NODES with K 4 and 5", "6 * input(); gate(AND, 0, 1, 0); gate(OR, 2, 3, 0); output([6 7]); "
                + "inputs(4)" + none + "inputs(5)" + one);
        edges.run("5 NODES with K 5 and 6", "6 * input(); gate(AND, 0, 1, 0); gate(MOST, 2, 3, 4); output([6 7]); "
                + "inputs(5)" + none + "inputs(6)" + one);
        edges.run("6 NODES with K 6", "6 * input(); gate(MOST, 0, 1, 2); gate(MOST, 3, 4, 5); output([6 7]); inputs(6)"
                + none);
        edges.run("the fewest, 1 NODE", "6 * input(); gate(NOT, [5 5], 0, 0); output([6 7]); inputs(3)" + one);
        edges.run("3 NODES with K 4 and then with K 3", "6 * input(); gate(AND, [0 1], 2, 0); output([6 7]); inputs(4)"
                + one + "inputs(3)" + none + "inputs(4)" + one);
        // Together 6 and 9 have {1 6 8}, which would be K - 1.
        edges.run("one is in the CHOSEN of the other one", """
            5 * input(); gate(AND, 2, 4, 0); gate(AND, 1, 1, 0); gate(MOST, 5, 0, 5); gate(AND, 7, 3, 0)
            gate(AND, 8, 6, 0); output([6 9]); map() = 3; chosen([6 9]) = {1} {6 8}
            mapped([2..4]) = 0 0 3; table([6 8 9], 3) = -1
            """);
        edges.run("both have the same NODE in CHOSEN", """
            5 * input(); gate(AND, 2, 4, 0); gate(AND, 1, 1, 0); gate(MOST, 5, 0, 5); gate(AND, 7, 3, 0)
            gate(AND, 8, 1, 0); output([6 9]); map() = 3; chosen([6 9]) = {1} {1 8}
            mapped([2..4]) = 1 1 2; table([6 8 9], 3) = 9 -1 6
            """);
    }

    private static void paired(Edges edges) {
        edges.sentence(19, "PAIRED: TABLE by TABLE, by numbers, that is not yet: with the next one that is not yet, if "
                + "they are a PAIR, else the one behind that, on and on.");
        edges.run("the next one is no PAIR with it", """
            4 * input(); gate(MOST, 0, 1, 2); gate(AND, 2, 3, 0); gate(OR, 0, 1, 0); gate(XOR, 0, 2, 0); output([4..7])
            map() = 4; table([4..7], 3) = 6 7 4 5; table([4..7], 4) = 0 1 0 1
            """);
        edges.run("one that is already is passed by", """
            2 * input(); gate([1..4], 0, 1, 0); gate(XOR, 1, 0, 0); output([2..6]); map() = 5
            table([2..6], 3) = 3 2 5 4 -1; table([2..6], 4) = 0 0 1 1 2; mapped([2..4]) = 2 2 3
            """);
        edges.run("one alone", "input(); gate(NOT, 0, 0, 0); output(1); map() = 1; table(1, 3) = -1; mapped(2) = 0");
        edges.run("the last of many", """
            inputs(3); 8 * input(); gate(MOST, [0..3], 4, 5); gate(AND, 6, 7, 0); gate(OR, 6, 7, 0); output([8..13])
            map() = 6; table([8..13], 3) = -1 -1 -1 -1 13 12
            """);
    }

    private static void mostPairs(Edges edges) {
        edges.sentence(21, "MOST PAIRS: the most that can be made so that each TABLE is in one at most.");
        edges.run("more than are PAIRED", """
            inputs(3); 3 * input(); gate(XOR, 0, 0, 0); gate(AND, 3, 0, 0); gate(AND, 1, 4, 0); gate(XOR, 2, 0, 0)
            output([3..6]); map() = 4; chosen([3..6]) = {0} {0} {0 1} {0 2}; table([3..6], 3) = 4 3 -1 -1
            mapped([2 3]) = 1 2
            """);
        edges.run("one with each of the others, but once", """
            inputs(4); 7 * input(); gate(NOT, 0, 0, 0); gate(AND, 1, 2, 0); gate(AND, 3, 4, 0); gate(AND, 5, 6, 0)
            output([7..10]); map() = 4; mapped([2 3]) = 1 1; table([7..10], 3) = 8 7 -1 -1
            """);
        edges.run("an odd number", "2 * input(); gate([1..3], 0, 1, 0); output([2..4]); map(); mapped([2 3]) = 1 1");
        // Of seven and seven no two of one and the other are a PAIR, so one of each is left.
        edges.run("14 in two odd halves", """
            inputs(3); 4 * input(); 6 * gate(AND, 0, 1, 0); 6 * gate(OR, 2, 3, 0); output([4..15])
            gate(XOR, 0, 1, 0); gate(XOR, 2, 3, 0); 2 * register(); feed(18, 16); feed(19, 17); map() = 14
            mapped([2 3]) = 6 6
            """);
    }

    private static void cell(Edges edges) {
        edges.sentence(22, "Of a CELL, what 0: its lower TABLE, 1: the higher one, 2: the lowest REGISTER, 3: the "
                + "other one (NONE: none such each), 4: how many NETS IN; -2: others, it is not MAPPED.");
        edges.run("the least and the greatest what", THREE_CELLS + """
            map(); cell(0, [MIN -2 -1 0 1 2 3 4 5 6 64 MAX]) = -2 -2 -2 5 6 2 3 2 -2 -2 -2 -2
            cell(1, [-1..5]) = -2 7 -1 -1 -1 2 -2; cell(2, [-1..5]) = -2 -1 -1 4 -1 1 -2
            """);
        edges.run("the first, the last and one more CELL", THREE_CELLS + """
            map(); mapped(4) = 3; cell([MIN -64 -2 -1 3 4 40 64 MAX], [0..4]) = -2; cell([0..2], 4) = 2 2 1
            """);
        edges.run("it is not MAPPED", THREE_CELLS + "cell([0..2], [0..4]) = -2; map(); input(); "
                + "cell([0..2], [0..4]) = -2");
        edges.run("no CELL", "map(); cell([-1 0 1], [0..4]) = -2; input(); output(0); map(); cell(0, [0..4]) = -2");
        edges.run("40 CELLS", "40 * register(); map(); mapped(4) = 40; cell([0 39 40], 2) = 0 39 -2; cell(39, 4) = 1");
    }

    private static void cells(Edges edges) {
        edges.sentence(22, "CELLS: each PAIR, each other TABLE, by the lower TABLE, upwards; then the REGISTERS that "
                + "are not packed, by numbers.");
        edges.run("a PAIR with one in between", """
            3 * register(); 4 * input(); gate(AND, 3, 4, 0); gate(MOST, 4, 5, 6); gate(OR, 3, 4, 0); output([7..9])
            map()
            mapped(4) = 5; cell([0..5], 0) = 7 8 -1 -1 -1 -2; cell([0..4], 1) = 9 -1 -1 -1 -1
            cell([0..4], 2) = -1 -1 0 1 2; table([7..9], 4) = 0 1 0
            """);
        edges.run("REGISTERS told ahead of all TABLES", """
            register(); input(); gate(XOR, 0, 1, 0); output(2); register(); map(); cell([0..2], 0) = 2 -1 -1
            cell([0..2], 2) = -1 0 3
            """);
    }

    private static void packed(Edges edges) {
        edges.sentence(22, "A REGISTER is packed into the CELL of its FEED, if that is a TABLE that is no OUTPUT, no "
                + "FEED of another REGISTER, and has no USES.");
        String one = "inputs(3); 4 * input(); register(); gate(MOST, 0, 1, 2); feed(4, 5); ";
        edges.run("packed", one + "map(); mapped([4 5]) = 1 1; cell(0, [0..4]) = 5 -1 4 -1 3; table(5, 4) = 0");
        edges.run("an OUTPUT", one + "output(5); map(); mapped([4 5]) = 2 0; cell([0 1], 2) = -1 4; cell(1, 4) = 1");
        edges.run("the FEED of another REGISTER", one + """
            register(); feed(6, 5); map(); mapped([4 5]) = 3 0; cell([0..2], 2) = -1 4 6
            feed(6, 6); map(); mapped([4 5]) = 2 1
            """);
        edges.run("the FEED of another one, and one with a FEED of its own", one + """
            2 * register(); gate(AND, 0, 1, 0); feed(6, 5); feed(7, 8); map(); mapped([4 5]) = 4 1
            cell([0..3], 2) = -1 7 4 6
            feed(6, 8); feed(7, 5); map(); mapped([4 5]) = 4 1; cell([0..3], 2) = -1 6 4 7
            """);
        edges.run("a USE by a TABLE that is not the last one", one + """
            gate(AND, 5, 3, 0); gate(AND, 0, 3, 0); output([6 7]); map(); table(5, 2) = 1; mapped([4 5]) = 4 0
            """);
        edges.run("it has USES", one + """
            gate(AND, 5, 3, 0); output(6); map(); table(5, 2) = 1; mapped([4 5]) = 3 0
            inputs(4); map(); table(5, 2) = 0; mapped([4 5]) = 2 1
            """);
        // By {3 4} in place of {3 6} the TABLE 6 is spared, and 4 has a USE.
        edges.run("it has USES by AGAIN", """
            inputs(3); 4 * input(); gate(MOST, 0, 1, 2); gate(NOT, [4 5], 0, 0); gate(AND, 6, 3, 0); output(7)
            register()
            feed(8, 4); map() = 3; mapped([4 5]) = 3 1; cell(0, 2) = 8; again(0) = 1; chosen(7) = {3 4}
            table(4, 2) = 1; mapped([4 5]) = 3 0; cell([0..2], 2) = -1 -1 8
            """);
        edges.run("an INPUT, a REGISTER, itself", """
            input(); 3 * register(); feed(1, 0); feed(2, 1); map(); mapped([4 5]) = 3 0; cell([0..2], 2) = 1 2 3
            """);
        edges.run("a REGISTER that is its own FEED's SOURCE", """
            register(); gate(NOT, 0, 0, 0); feed(0, 1); map(); mapped([4 5]) = 1 1; cell(0, [0..4]) = 1 -1 0 -1 1
            """);
        edges.run("two into one CELL, the lowest first", THREE_CELLS + """
            map(); mapped(5) = 2; cell(0, [0..3]) = 5 6 2 3; feed(2, 5); feed(3, 6); map(); cell(0, [0..3]) = 5 6 2 3
            """);
        edges.run("into the CELL of the higher TABLE alone", """
            2 * input(); register(); gate([1 2], 0, 1, 0); output(3); feed(2, 4); map(); mapped([4 5]) = 1 1
            cell(0, [0..3]) = 3 4 2 -1
            """);
    }

    private static void nets(Edges edges) {
        edges.sentence(22, "NETS IN of a CELL: NODES in the CHOSEN of its TABLES; of a REGISTER alone its FEED.");
        edges.run("1 to 6, and of a PAIR each once", """
            inputs(6); 6 * input(); gate(NOT, 0, 0, 0); gate(MOST, 0, 1, 2); gate(MOST, 3, 4, 5); gate(XOR, 7, 8, 0)
            output(9); map(); cell(0, 4) = 6; output(6); map(); cell([0 1], 4) = 1 6
            new
            4 * input(); gate(MOST, 0, 1, 2); gate(AND, 2, 1, 0); output([4 5]); map(); mapped(4) = 1; cell(0, 4) = 3
            """);
        edges.run("a packed REGISTER has none of its own", """
            3 * input(); register(); gate(MOST, 0, 1, 2); feed(3, 4); map(); cell(0, 4) = 3
            """);
        edges.run("a REGISTER alone, its own FEED, too", "register(); input(); register(); feed(2, 1); map(); "
                + "cell([0 1], 4) = 1 1");
        edges.sentence(25, "NETS OUT: its TABLES and REGISTERS.");
        // 4 with 3 packed in; 5 has the REGISTER 3 in its CHOSEN; the REGISTER 6 has 5 as its FEED.
        edges.run("a packed REGISTER, a TABLE, a REGISTER alone", """
            inputs(3); 3 * input(); register(); gate(MOST, 0, 1, 2); gate(NOT, 3, 0, 0); feed(3, 4); output(5)
            map(); mapped([4 5]) = 2 1; cross(1, 6) = 1
            register(); feed(6, 5); map(); mapped([4 5]) = 3 1; cross(1, 6) = 2
            gate(NOT, 6, 0, 0); output(7); map(); cross(1, 6) = 3
            """);
    }

    private static void clusters(Edges edges) {
        edges.sentence(23, "CLUSTERS of so many CELLS, with so many NETS at most: how many; NONE: others, it is not "
                + "MAPPED.");
        edges.run("the least and the greatest of both", FOUR_CELLS + """
            map(); clusters([1 8], [6 16]) = 4 4 2 1
            clusters([MIN -1 0 9 10 MAX], [6 16]) = -1; clusters([1 8], [MIN -1 0 5 17 MAX]) = -1
            clusters([0 9], [5 17]) = -1
            """);
        edges.run("it is not MAPPED", FOUR_CELLS + "clusters([1 8], [6 16]) = -1; map(); input(); "
                + "clusters([1 8], [6 16]) = -1");
        edges.run("no CELL", "map(); clusters([1..8], [6 16]) = 0; input(); output(0); map(); clusters(1, 6) = 0");
        edges.run("40 CELLS", "40 * register(); map(); clusters([1..8], 6) = 40 20 14 10 8 7 6 5");
        edges.sentence(23, "CLUSTERS of so many CELLS (1 to 8), with so many NETS (6 to 16) at most: from outside come "
                + "to CELLS together: their NETS IN that are not their NETS OUT.");
        edges.run("8 CELLS and 9", """
            8 * register(); map(); clusters([1..8], 6) = 8 4 3 2 2 2 2 1; register(); map(); clusters([7 8], 6) = 2
            cluster(8, 6, [0..8]) = 0 0 0 0 0 0 0 0 1
            """);
        String two = "inputs(3); 17 * input(); gate(MOST, 0, 1, 2); gate(MOST, 3, 4, 5); ";
        edges.run("6 NETS and 7", two + """
            output([17 18]); map() = 2; clusters(8, 6) = 1; gate(NOT, 6, 0, 0); output(19); map() = 3
            clusters(8, [6 7]) = 2 1; cluster(8, 6, [0..2]) = 0 0 1
            """);
        String five = two + "gate(MOST, 6, 7, 8); gate(MOST, 9, 10, 11); gate(MOST, 12, 13, 14); output([17..21]); ";
        edges.run("15 and 16 NETS", five + """
            gate(NOT, 15, 0, 0); output(22); map() = 6; mapped(4) = 6; clusters(8, [14 15 16]) = 2 2 1
            cluster(8, 15, [0..5]) = 0 0 0 0 0 1; cluster(8, 14, [0..5]) = 0 0 0 0 1 0
            """);
        edges.run("17 NETS", five + """
            gate(AND, 15, 16, 0); output(22); map() = 6; clusters(8, 16) = 2; cluster(8, 16, [0..5]) = 0 0 0 0 0 1
            """);
        edges.run("what comes of a CELL of its own is not from outside", FOUR_CELLS + """
            map(); clusters(8, [6 7]) = 2 1; cluster(8, 6, [0..3]) = 0 1 0 0
            """);
        edges.run("a ring of REGISTERS, with no NETS from outside", """
            8 * register(); feed(0, 7); feed(1, 0); feed(2, 1); feed(3, 2); feed(4, 3); feed(5, 4); feed(6, 5)
            feed(7, 6)
            map(); clusters(8, 6) = 1; cross(8, 6) = 0; cross(1, 6) = 8
            """);
    }

    private static void filling(Edges edges) {
        edges.sentence(24, "of these the one with the most NETS IN, of equal ones the lowest, begins a CLUSTER");
        edges.run("not the lowest, and the lowest of equal ones", """
            inputs(3); 8 * input(); gate(NOT, 0, 0, 0); gate(MOST, 1, 2, 3); gate(AND, 4, 5, 0); gate(MOST, 5, 6, 7)
            output([8..11]); map() = 4; mapped(4) = 4; cluster(1, 6, [0..3]) = 3 0 2 1
            """);
        edges.run("by NETS IN, those that come of other CELLS, too", FOUR_CELLS + "map(); "
                + "cluster(1, 6, [0..3]) = 0 1 3 2");
        edges.sentence(24, "then, as long as there are CELLS left with which (one more) it would not be too many CELLS "
                + "nor NETS");
        // By 6 NETS the CELL 1, which shares two, is too much, the CELL 2, which shares none, is not.
        String three = """
            inputs(5); 9 * input(); gate(MOST, 0, 1, 2); gate(MOST, 9, 3, 4); gate(MOST, 3, 4, 5); gate(MOST, 11, 6, 7)
            gate(NOT, 8, 0, 0); output([10 12 13]); map() = 3; chosen([10 12 13]) = {0 1 2 3 4} {3 4 5 6 7} {8}
            """;
        edges.run("one that is too much is passed by", three + "cluster(8, [6 7], [0..2]) = 0 1 0 0 1 0");
        edges.run("just as many NETS", three + "cluster(8, 8, [0..2]) = 0 0 1; cluster(8, 9, [0..2]) = 0");
        edges.run("just as many CELLS", three + "cluster([1 2 3], 16, [0..2]) = 0 1 2 0 0 1 0 0 0");
        edges.sentence(24, "of these that of which the most NETS (IN or OUT, each once) are NETS (IN or OUT) of CELLS "
                + "of the CLUSTER, of equal ones the lowest, comes to it.");
        edges.run("the most", FOUR_CELLS + "map(); cluster(2, 16, [0..3]) = 0 1 1 0; cluster(3, 16, [0..3]) = 0 1 0 0");
        edges.run("the lowest of equal ones, with none shared", """
            inputs(3); 9 * input(); gate(MOST, 0, 1, 2); gate(MOST, 3, 4, 5); gate(MOST, 6, 7, 8); output([9..11])
            map()
            cluster(2, 16, [0..2]) = 0 0 1
            """);
        edges.run("one shared, ahead of a lower one with none", """
            inputs(3); 3 * input(); register(); gate(MOST, 3, 0, 1); gate(NOT, 2, 0, 0); output([4 5]); map()
            mapped(4) = 3; cluster(2, 6, [0..2]) = 0 1 0
            """);
        edges.run("the NODE 0 is shared, if it is a NET alone", """
            inputs(3); 7 * input(); gate(MOST, 1, 2, 3); gate(AND, 4, 5, 0); gate(AND, 0, 6, 0); output([7..9]); map()
            cluster(2, 16, [0..2]) = 0 0 1
            """);
        // 9 is OUT of the CELL 0 and IN of the CELL 1: the CELL 4 shares it with both, but with no CLUSTER behind.
        String behind = """
            inputs(3); 9 * input(); gate(MOST, 0, 1, 2); gate(AND, 9, 3, 0); gate(MOST, 4, 5, 6); gate(NOT, 7, 0, 0)
            gate(OR, 9, 8, 0); output([10..13]); map() = 5; mapped(4) = 5
            """;
        edges.run("a NODE that comes from within", behind + "cluster(3, 16, [0..4]) = 0 0 1 1 0");
        edges.run("no NETS of a CLUSTER that is filled", behind + "cluster(2, 16, [0..4]) = 0 0 1 1 2");
        // The REGISTER 3, its own FEED, shares the NODE 3, IN and OUT; 5 shares the NODE 0: one each.
        edges.run("each once", """
            inputs(3); 3 * input(); register(); gate(MOST, 3, 0, 1); gate(AND, 0, 2, 0); output([4 5]); map()
            mapped(4) = 3; cluster(2, 6, [0..2]) = 0 0 1
            """);
        // The REGISTER 4 has 6 as its FEED and 6 has it in its CHOSEN: two; 5 shares one.
        edges.run("IN of the one, OUT of the other, both ways", """
            inputs(3); 4 * input(); register(); gate(AND, 0, 2, 0); gate(MOST, 4, 0, 1); feed(4, 6); output([5 6])
            map()
            mapped(4) = 3; cell([0..2], 4) = 2 3 1; cluster(2, 6, [0..2]) = 1 0 0
            """);
    }

    private static void cluster(Edges edges) {
        edges.sentence(24, "In which CLUSTER (from 0, as they are begun) a CELL is; NONE: others, it is not MAPPED.");
        edges.run("the first, the last and one more CELL", FOUR_CELLS + """
            map(); cluster(1, 6, [0 3]) = 0 2; cluster([1 8], [6 16], [MIN -64 -2 -1 4 5 40 64 MAX]) = -1
            """);
        edges.run("the least and the greatest of both", FOUR_CELLS + """
            map(); cluster([1 8], [6 16], 3) = 2 2 0 0; cluster([MIN -1 0 9 10 MAX], [6 16], 3) = -1
            cluster([1 8], [MIN -1 0 5 17 MAX], 3) = -1
            """);
        edges.run("it is not MAPPED", FOUR_CELLS + "cluster(1, 6, [0..3]) = -1; map(); inputs(4); "
                + "cluster(1, 6, [0..3]) = -1");
        edges.run("40 CELLS", "40 * register(); map(); cluster(1, 6, [0..40]) = [0..39] -1; "
                + "cluster(8, 6, [7 8 39]) = 0 1 4");
        edges.run("no CELL", "map(); cluster(1, 6, [" + WRONG.substring(1, WRONG.length() - 1) + " 0]) = -1");
        edges.sentence(24, "As long as any CELL is left");
        edges.run("one limit and another one, to and fro", FOUR_CELLS + """
            map(); cluster(1, 6, [0..3]) = 0 1 3 2; cluster(8, 7, [0..3]) = 0; cluster(1, 6, [0..3]) = 0 1 3 2
            cluster(8, 6, [0..3]) = 0 1 0 0; clusters(9, 6) = -1; cluster(8, 6, [0..3]) = 0 1 0 0
            """);
        edges.run("behind AGAIN and another MAP", """
            inputs(3); 4 * input(); gate(AND, 0, 2, 0); gate(AND, 1, 3, 0); gate(AND, 4, 5, 0); output(6)
            map() = 3; clusters(1, 6) = 3; again(0) = 1; clusters(1, 6) = 2; cluster(1, 6, [0..2]) = 1 0 -1
            map() = 3; clusters(1, 6) = 3
            """);
    }

    private static void cross(Edges edges) {
        edges.sentence(25, "CROSS; NONE: others, it is not MAPPED.");
        edges.run("the least and the greatest of both", FOUR_CELLS + """
            map(); cross([1 8], [6 16]) = 2 2 1 0; cross([MIN -1 0 9 10 MAX], [6 16]) = -1
            cross([1 8], [MIN -1 0 5 17 MAX]) = -1
            """);
        edges.run("it is not MAPPED", FOUR_CELLS + "cross([1 8], [6 16]) = -1; map(); output(0); "
                + "cross([1 8], [6 16]) = -1");
        edges.run("no CELL", "map(); cross([1 8], [6 16]) = 0");
        edges.sentence(25, "CROSS: NODES that are NETS OUT of a CLUSTER and NETS IN of another one.");
        edges.run("one that comes to two others, once; INPUTS not", """
            inputs(3); 5 * input(); gate(MOST, 0, 1, 2); gate(AND, 5, 3, 0); gate(OR, 5, 4, 0); output([6 7]); map() = 3
            clusters(1, 6) = 3; cross(1, 6) = 1; cross(2, 6) = 1; cross(3, 6) = 0
            """);
        edges.run("none within one CLUSTER, and none of a REGISTER to itself", "register(); input(); register(); "
                + "feed(2, 1); map(); clusters(1, 6) = 2; cross(1, 6) = 0; feed(2, 0); map(); cross([1 2], 6) = 1 0");
        edges.run("one to 39 others, and 40 in a ring", "40 * register(); feed([1..39], 0); map(); cross(1, 6) = 1; "
                + "feed(0, 39); " + ring() + "map(); cross([1 8], 6) = 40 5");
    }

    /** Each of the REGISTERS 1 to 39 has the one ahead as its FEED. */
    private static String ring() {
        StringBuilder calls = new StringBuilder();
        for (int register = 1; register < 40; register++) {
            calls.append("feed(").append(register).append(", ").append(register - 1).append("); ");
        }
        return calls.toString();
    }
}
