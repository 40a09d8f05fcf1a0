/** Boundary cases of promises 12 to 17: NODES, LEVELS and CUTS. */
final class CutEdges {
    private static final String WRONG = Script.WRONG;

    /** ANDs of 2, 3, .. 7 INPUTS: GATES 7 to 12. */
    private static final String STAIRS = """
        7 * input(); gate(AND, 0, 1, 0); gate(AND, 7, 2, 0); gate(AND, 8, 3, 0); gate(AND, 9, 4, 0)
        gate(AND, 10, 5, 0); gate(AND, 11, 6, 0)
        """;

    /** One INPUT and 39 NOTs, each of the one ahead of it. */
    private static final String CHAIN = "input(); gate(NOT, [0..38], 0, 0)\n";

    /**
     * With K 3: MOSTs 9, 10, 11 of three INPUTS each; their NOTs 12, 13, 14, and the NOTs of these 15, 16, 17, all of
     * LEVEL 1; 18 is the MOST of the last three, so 27 CUTS of three NODES make its LEVEL 2.
     */
    private static final String WIRES = """
        inputs(3); 9 * input(); gate(MOST, 0, 1, 2); gate(MOST, 3, 4, 5); gate(MOST, 6, 7, 8)
        gate(NOT, [9..14], 0, 0); gate(MOST, 15, 16, 17)
        """;

    private CutEdges() {
    }

    static void all(Edges edges) {
        node(edges);
        below(edges);
        level(edges);
        near(edges);
        cone(edges);
        row(edges);
        kept(edges);
        isCut(edges);
        depth(edges);
    }

    private static void node(Edges edges) {
        edges.sentence(12, "Of a NODE, what 0: 0 INPUT, 1 GATE, 2 REGISTER, 1: KIND (NONE: no GATE), 2, 3, 4: SOURCES "
                + "(of a REGISTER 2: its FEED; NONE: none such), 5: LEVEL, 6: 1 a ROOT, 7: how many are BELOW it; "
                + "NONE: others.");
        String one = "input(); register(); gate(PICK, 0, 1, 0); feed(1, 2); output(0)\n";
        edges.run("the least and the greatest what", one + """
            node(0, [0..7]) = 0 -1 -1 -1 -1 0 1 0; node(1, [0..7]) = 2 -1 2 -1 -1 0 0 0
            node(2, [0..7]) = 1 5 0 1 0 1 1 2; node([0..2], [MIN -2 -1 8 9 64 MAX]) = -1
            """);
        edges.run("no NODE", one + "node(" + WRONG + ", [0 7]) = -1; node(3, [0..7]) = -1");
        edges.run("the last of 40", CHAIN + "node(39, [0..7]) = 1 0 38 -1 -1 1 0 39; node(40, [0..7]) = -1");
        edges.run("it is not asked for MAPPED", one + "count(6) = 0; node(2, 5) = 1; map(); node(2, 5) = 1");
        edges.run("a SOURCE that is NODE 0, and KIND 0", "input(); gate(NOT, 0, 5, 5); node(1, [1..4]) = 0 0 -1 -1");
    }

    private static void below(Edges edges) {
        edges.sentence(12, "BELOW a GATE: its SOURCES, theirs, on and on (of REGISTERS none).");
        edges.run("of LEAVES none, also if a FEED has some", """
            2 * input(); gate(AND, 0, 1, 0); register(); feed(3, 2); gate(NOT, 3, 0, 0)
            node([0..4], 7) = 0 0 2 0 1
            """);
        edges.run("each once", """
            2 * input(); gate(AND, 0, 0, 0); gate(MOST, 2, 0, 2); gate(PICK, 3, 2, 3); gate(XOR, 4, 1, 0)
            node([2..5], 7) = 1 2 3 5
            """);
        edges.run("each once, by any two of three SOURCES", """
            3 * input(); gate(AND, 0, 1, 0); gate(AND, 0, 2, 0); gate(MOST, 3, 0, 2); gate(MOST, 2, 3, 0)
            gate(MOST, 0, 2, 3); gate(PICK, 2, 3, 4); gate(PICK, 3, 4, 2); gate(PICK, 3, 2, 4); gate(PICK, 3, 1, 4)
            node([3..11], 7) = 2 2 4 4 4 5 5 5 5
            """);
        edges.run("39, the most", CHAIN + "node([0..39], 7) = [0..39]");
        edges.sentence(12, "LEAVES: INPUTS and REGISTERS.");
        edges.run("LEVEL, and the end of a way, at both", """
            input(); register(); gate(XOR, 0, 1, 0); feed(1, 2); node([0..2], 5) = 0 0 1
            isCut(2, [{0} {1} {0 1}]) = false false true; near(2, [-1..2]) = 2 0 1 -1; map(); slow(0) = 2
            slow([1 2]) = 0 -1
            """);
    }

    private static void level(Edges edges) {
        edges.sentence(12, "LEVEL: 0 of a LEAF; of a GATE 1 more than the greatest LEVEL in a CUT, that by which this "
                + "is least.");
        edges.run("K LEAVES and one more, for each K", STAIRS + """
            node([0..6], 5) = 0
            inputs(3); node([7..12], 5) = 1 1 2 2 3 3
            inputs(4); node([7..12], 5) = 1 1 1 2 2 2
            inputs(5); node([7..12], 5) = 1 1 1 1 2 2
            inputs(6); node([7..12], 5) = 1 1 1 1 1 2
            """);
        edges.run("a REGISTER in between", """
            input(); gate(NOT, 0, 0, 0); register(); feed(2, 1); gate(NOT, 2, 0, 0); node([0..3], 5) = 0 1 0 1
            """);
        edges.run("39 GATES, and one LEVEL", CHAIN + "inputs(3); node(0, 5) = 0; node([1..39], 5) = 1");
        // Each MOST has two INPUTS of its own, so no CUT of three NODES goes across two of them.
        edges.run("13 LEVELS of 40 NODES", """
            inputs(3); 27 * input(); gate(MOST, 0, 1, 2); gate(MOST, 27, 3, 4); gate(MOST, 28, 5, 6)
            gate(MOST, 29, 7, 8); gate(MOST, 30, 9, 10); gate(MOST, 31, 11, 12); gate(MOST, 32, 13, 14)
            gate(MOST, 33, 15, 16); gate(MOST, 34, 17, 18); gate(MOST, 35, 19, 20); gate(MOST, 36, 21, 22)
            gate(MOST, 37, 23, 24); gate(MOST, 38, 25, 26) = 39
            node([27..39], 5) = [1..13]; output(39); depth() = 13; map() = 13; mapped([0 1]) = 13 13
            slow([0..15]) = 39 38 37 36 35 34 33 32 31 30 29 28 27 0 -1 -1
            inputs(5); node([27..39], 5) = 1 1 2 2 3 3 4 4 5 5 6 6 7
            """);
    }

    private static void near(Edges edges) {
        edges.sentence(13, "The i-th (from 0) of the NEAR CUT of a GATE, upwards, how many (i NONE); NONE: others, "
                + "none such.");
        edges.run("the first, the last and one more, of K NODES", STAIRS + """
            inputs(3); near(8, [MIN -2 -1 0 1 2 3 4 MAX]) = -1 -1 3 0 1 2 -1 -1 -1
            inputs(6); near(11, [MIN -2 -1 0 1 2 3 4 5 6 7 64 MAX]) = -1 -1 6 0 1 2 3 4 5 -1 -1 -1 -1
            """);
        edges.run("of one NODE", CHAIN + "near([1 39], [-2 -1 0 1]) = -1 1 0 -1 -1 1 0 -1");
        edges.run("no GATE", STAIRS + "register(); near([0 6 13 14], [-1 0]) = -1; near(" + WRONG + ", [-1 0]) = -1");
        edges.run("the last of 40", "38 * input(); register(); gate(AND, 38, 37, 0); near(39, [-1..2]) = 2 37 38 -1");
        edges.run("as long a way down as can be", """
            inputs(3); 4 * input(); gate(MOST, 0, 1, 2); gate(NOT, [4..37], 0, 0) = [5..38]; gate(AND, 38, 3, 0) = 39
            node(39, 5) = 2; near(39, [-1..2]) = 2 3 38 -1; cone([38 39]) = 35 1
            """);
        edges.sentence(13, "NEAR CUT of a GATE: of its CUTS by which its LEVEL is that one with the fewest NODES, of "
                + "these that with the fewest GATES in its CONE (there is just one).");
        edges.run("the LEVEL ahead of the fewest NODES", """
            3 * input(); gate(MOST, 0, 1, 2); gate(NOT, 3, 0, 0); near(4, [-1..3]) = 3 0 1 2 -1; cone(4) = 2
            """);
        edges.run("the fewest NODES ahead of the fewest GATES", """
            inputs(3); 4 * input(); gate(MOST, 0, 1, 2); gate(NOT, 4, 0, 0); gate(NOT, 4, 0, 0); gate(MOST, 5, 6, 3)
            node(7, 5) = 2; near(7, [-1..2]) = 2 3 4 -1; cone(7) = 3
            isCut(7, {3 5 6}) = true
            """);
        edges.run("the fewest GATES of equal ones", """
            inputs(3); 4 * input(); gate(MOST, 0, 1, 2); gate(NOT, 4, 0, 0); gate(AND, 5, 3, 0)
            near(6, [-1..2]) = 2 3 5 -1; cone(6) = 1; isCut(6, {3 4}) = true
            """);
        edges.run("by K", STAIRS + """
            inputs(3); near(9, [-1..2]) = 2 3 8 -1; near(10, [-1..3]) = 3 3 4 8 -1; near(11, [-1..2]) = 2 5 10 -1
            near(12, [-1..3]) = 3 5 6 10 -1
            inputs(4); near(9, [-1..4]) = 4 0 1 2 3 -1; near(10, [-1..2]) = 2 4 9 -1
            near(12, [-1..4]) = 4 4 5 6 9 -1
            """);
    }

    private static void cone(Edges edges) {
        edges.sentence(14, "How many GATES are in the CONE of the NEAR CUT; NONE: others.");
        edges.run("no GATE", STAIRS + "register(); cone([0 6 13 14]) = -1; cone(" + WRONG + ") = -1");
        edges.run("the fewest and the most", CHAIN + "cone([0..40]) = -1 [1..39] -1");
        edges.sentence(14, "Its CONE: GATES that one comes to from the GATE by SOURCES without coming to a NODE of the "
                + "CUT, the GATE, too.");
        edges.run("the GATE alone, and down to the CUT", STAIRS + """
            inputs(3); cone([7..12]) = 1 2 1 2 1 2; inputs(6); cone([7..12]) = 1 2 3 4 5 1
            """);
        edges.run("each GATE once, by two ways", """
            2 * input(); gate(AND, 0, 1, 0); gate(OR, 2, 0, 0); gate(XOR, 2, 3, 0); gate(PICK, 2, 3, 4)
            cone([2..5]) = 1 2 3 4
            """);
        edges.run("without GATES behind a REGISTER", """
            input(); gate(NOT, 0, 0, 0); register(); feed(2, 1); gate(NOT, 2, 0, 0); gate(NOT, 3, 0, 0)
            cone([1..4]) = 1 -1 1 2
            """);
    }

    private static void row(Edges edges) {
        edges.sentence(15, "CUTS are in ROW: by 1 more than the greatest LEVEL in them, upwards, then by how many "
                + "NODES, upwards, then by their lowest NODES, the second ones, on and on, upwards.");
        edges.run("the LEVEL ahead of how many", STAIRS + """
            inputs(4); kept(8, [0..2]) = {0 1 2} {2 7} 0; kept(9, [0..3]) = {0 1 2 3} {3 8} {2 3 7} 0
            """);
        edges.run("equal ones by the lowest, the second, the last NODES", """
            inputs(3); 4 * input(); gate(AND, 0, 1, 0); gate(OR, 4, 2, 0); gate(XOR, 4, 3, 0); gate(AND, 5, 6, 0)
            kept(7, [0..4]) = {5 6} {2 3 4} {2 4 6} {3 4 5} 0
            """);
        edges.run("equal ones but for the last NODE", WIRES + "kept(18, [0..2]) = {9 10 11} {9 10 14} {9 10 17}");
        edges.run("NODES above 31", """
            34 * input(); gate(AND, 32, 33, 0); gate(AND, 34, 0, 0); gate(NOT, 34, 0, 0); gate(NOT, 35, 0, 0)
            gate(NOT, 36, 0, 0); gate(XOR, 37, 38, 0) = 39
            kept(39, [0..8]) = {0 32 33} {0 34} {34 35} {34 37} {35 36} {35 38} {36 37} {37 38} 0
            """);
    }

    private static void kept(Edges edges) {
        edges.sentence(15, "The c-th (from 0) KEPT CUT of a GATE as bits by NODES; 0: others, none such.");
        edges.run("the first, the last and one more", """
            2 * input(); gate(AND, 0, 1, 0); kept(2, [MIN -2 -1 0 1 2 7 8 MAX]) = 0 0 0 {0 1} 0 0 0 0 0
            """);
        edges.run("no GATE", STAIRS + "register(); kept([0 6 13 14], [0 7]) = 0; kept(" + WRONG + ", 0) = 0");
        edges.run("the last of 40", "38 * input(); register(); gate(AND, 38, 0, 0); kept(39, [0 1]) = {0 38} 0");
        edges.sentence(15, "and have K NODES at most");
        edges.run("K NODES and one more, for each K", STAIRS + """
            inputs(3); kept(8, [0..2]) = {0 1 2} {2 7} 0; kept(9, [0..2]) = {3 8} {2 3 7} 0
            inputs(4); kept(9, [0..3]) = {0 1 2 3} {3 8} {2 3 7} 0
            kept(10, [0..3]) = {4 9} {3 4 8} {2 3 4 7} 0
            inputs(5); kept(10, [0..4]) = {0 1 2 3 4} {4 9} {3 4 8} {2 3 4 7} 0
            kept(11, [0..4]) = {5 10} {4 5 9} {3 4 5 8} {2 3 4 5 7} 0
            inputs(6); kept(11, [0..5]) = {0 1 2 3 4 5} {5 10} {4 5 9} {3 4 5 8} {2 3 4 5 7} 0
            kept(12, [0..5]) = {6 11} {5 6 10} {4 5 6 9} {3 4 5 6 8} {2 3 4 5 6 7} 0
            """);
        edges.sentence(15, "but without those in which all NODES of another one of these are");
        edges.run("an INPUT in both SOURCES", """
            input(); gate(NOT, 0, 0, 0); gate(AND, 0, 1, 0); kept(2, [0 1]) = {0} 0
            """);
        edges.run("one SOURCE three times", """
            2 * input(); gate(AND, 0, 1, 0); gate(MOST, 2, 2, 2); kept(3, [0..2]) = {0 1} {2} 0
            """);
        edges.run("one that shares some NODES alone stays", """
            3 * input(); gate(AND, 0, 1, 0); gate(AND, 1, 2, 0); gate(XOR, 3, 4, 0)
            kept(5, [0..4]) = {0 1 2} {3 4} {0 1 4} {1 2 3} 0
            """);
        edges.sentence(15, "of them the first 8 in ROW");
        edges.run("just 8 there are", """
            inputs(6); 6 * input(); gate(AND, 0, 1, 0); gate(AND, 2, 3, 0); gate(AND, 4, 5, 0); gate(MOST, 6, 7, 8)
            kept(9, [0..8]) = {0 1 2 3 4 5} {6 7 8} {0 1 7 8} {2 3 6 8} {4 5 6 7} {0 1 2 3 8} {0 1 4 5 7} {2 3 4 5 6} 0
            """);
        edges.run("9 and more there are, and the NEAR CUT is not of the first 8", WIRES + """
            near(18, [-1..3]) = 3 15 16 17 -1
            kept(18, [0..8]) = {9 10 11} {9 10 14} {9 10 17} {9 11 13} {9 11 16} {9 13 14} {9 13 17} {9 14 16} 0
            isCut(18, {9 16 17}) = true; map(); chosen(18) = {15 16 17}
            """);
        // The 9th of 7 would be {0 2 6}, and so would the 4th of 8.
        edges.run("the 9th of a SOURCE goes no further", """
            3 * input(); gate(AND, 0, 2, 0); gate(AND, 3, 3, 0); gate(AND, 1, 1, 0); gate(AND, 4, 5, 0)
            gate(AND, 6, 4, 0); gate(MOST, 0, 7, 4)
            kept(7, [0..8]) = {0 1 2} {1 3} {1 4} {3 5} {3 6} {4 5} {4 6} {0 2 5} 0; isCut(7, {0 2 6}) = true
            kept(8, [0..8]) = {0 1 2} {0 1 3} {0 1 4} {0 2 5} {0 2 7} {0 3 5} {0 3 6} {0 3 7} 0
            """);
        edges.sentence(15, "KEPT CUTS of a GATE: of its NEAR CUT, and of all that come of one set for each of its "
                + "SOURCES (it alone, or, of a GATE, a KEPT CUT of it), together");
        edges.run("its SOURCES alone", "inputs(3); 2 * input(); register(); gate(PICK, 2, 1, 0); "
                + "kept(3, [0 1]) = {0 1 2} 0");
        edges.run("of a REGISTER it alone", """
            input(); gate(NOT, 0, 0, 0); register(); feed(2, 1); gate(NOT, 2, 0, 0); kept(3, [0 1]) = {2} 0
            """);
        // The NEAR CUT of 12, {8 10 11}, is not of its first 8, so {8 9 11} comes of no KEPT CUT.
        edges.run("its NEAR CUT, though it comes of no sets of its SOURCES", """
            inputs(3); 5 * input(); gate(MOST, 1, 4, 4); gate(NOT, 5, 0, 0); gate(MOST, 3, 2, 6); gate(NOT, 4, 0, 0)
            gate(AND, 6, 4, 0); gate(NOT, 9, 0, 0); gate(NOT, 7, 0, 0); gate(MOST, 10, 11, 8); gate(AND, 9, 12, 0)
            near(12, [-1..3]) = 3 8 10 11 -1
            kept(12, [0..8]) = {1 4 7} {1 4 11} {4 5 7} {4 5 11} {4 6 7} {4 6 11} {4 7 9} {4 7 10} 0
            near(13, [-1..3]) = 3 8 9 11 -1
            kept(13, [0..8]) = {1 4 7} {1 4 11} {4 5 7} {4 5 11} {4 6 7} {4 6 11} {4 7 9} {8 9 11} 0
            """);
    }

    private static void isCut(Edges edges) {
        edges.sentence(16, "Whether these NODES, as bits, are a CUT of a GATE; false: others.");
        edges.run("no GATE", STAIRS + "register(); isCut([0 6 13 14], [0 1 {0 1} -1]) = false; isCut(" + WRONG + ", [0 "
                + "1 {0 1} -1]) = false");
        edges.run("no NODE, and every one", STAIRS + """
            isCut(7, [0 {0 1} LMIN LMAX -1]) = false true false false false
            """);
        edges.run("bits that are no NODES", STAIRS + """
            inputs(6); isCut(7, [{0 1 13} {0 1 31} {0 1 32} {0 1 40} {0 1 63} {32 33} {40 41}]) = false
            """);
        edges.run("bit 38", "38 * input(); register(); gate(NOT, 38, 0, 0); "
                + "isCut(39, [{38} {39} {6} {37}]) = true false false false");
        edges.sentence(16, "A CUT of a GATE: K NODES at most BELOW it, so that each way from it by SOURCES to a LEAF "
                + "has one of them (the LEAF, too).");
        edges.run("K NODES and one more, for each K", STAIRS + """
            inputs(3); isCut(8, {0 1 2}) = true; isCut(8, {0 1 2 7}) = false; isCut(9, [{2 3 7} {0 1 2 3}]) = true false
            inputs(4); isCut(8, {0 1 2 7}) = true; isCut(9, [{0 1 2 3} {0 1 2 3 8}]) = true false
            inputs(5); isCut(10, {0 1 2 3 4}) = true; isCut(11, {0 1 2 3 4 5}) = false
            inputs(6); isCut(11, {0 1 2 3 4 5}) = true; isCut(12, {0 1 2 3 4 5 6}) = false
            isCut(12, [{6 7 8 9 10 11} {5 6 7 8 9 10 11}]) = true false
            """);
        edges.run("one that is not BELOW it", STAIRS + """
            inputs(6); isCut(8, [{2 7} {2 7 3} {2 7 8} {2 7 9} {8} {9}]) = true false false false false false
            """);
        edges.run("a way that is left", STAIRS + """
            isCut(8, [{0 1} {0 2} {1 2} {7} {2} {0 7} {2 7}]) = false false false false false false true
            """);
        edges.run("one of them with ways to spare", STAIRS + "isCut(8, [{2 7 0} {2 7 1} {2 7 0 1}]) = true");
        edges.run("the LEAF, too", """
            input(); register(); gate(AND, 0, 1, 0); gate(NOT, 2, 0, 0); feed(1, 3)
            isCut(3, [{0 1} {2} {0} {1} {0 2} {3} {1 3}]) = true true false false true false false
            """);
    }

    private static void depth(Edges edges) {
        edges.sentence(17, "DEPTH: the greatest LEVEL of ROOTS (0: none).");
        edges.run("no ROOT", "depth() = 0; 2 * input(); gate(AND, 0, 1, 0); depth() = 0");
        edges.run("a LEAF alone", "input(); output(0); depth() = 0; register(); depth() = 0");
        edges.run("no GATE that is no ROOT", STAIRS + """
            inputs(3); output(7); depth() = 1; output(9); depth() = 2; register(); feed(13, 12); depth() = 3
            feed(13, 0); depth() = 2
            """);
        edges.run("not MAPPED, and by K", STAIRS + """
            output(12); count(6) = 0; depth() = 2; inputs(3); depth() = 3; inputs(6); depth() = 2; count(6) = 0
            """);
        edges.sentence(17, "`int depth()`: DEPTH.");
        edges.run("by LEVEL, whatever is CHOSEN", """
            inputs(3); 5 * input(); gate(OR, 4, 3, 0); gate(OR, 2, 5, 0); gate(XOR, 6, 1, 0); gate(AND, 7, 5, 0)
            output([7 8]); map() = 4; depth() = 2; again(1) = 1; mapped(1) = 3; depth() = 2
            """);
    }
}
