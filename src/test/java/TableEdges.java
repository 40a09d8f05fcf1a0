/** Boundary cases of promises 8, 9, 18 to 21 and 29: TABLES chosen and chosen again, and what they hold. */
final class TableEdges {
    private static final String WRONG = Script.WRONG;

    /** With K 3: 4 and 5 of two INPUTS each, 6 of both; one of 4 and 5 can be spared. */
    private static final String TWO_AND_ONE = """
        inputs(3); 4 * input(); gate(AND, 0, 2, 0); gate(AND, 1, 3, 0); gate(AND, 4, 5, 0); output(6)
        """;

    /** With K 3: 5, 6, 7, 8 are TABLES; if 8 may be one later, by {3 4 7}, the TABLE 5 is spared. */
    private static final String ONE_LATER = """
        inputs(3); 5 * input(); gate(OR, 4, 3, 0); gate(OR, 2, 5, 0); gate(XOR, 6, 1, 0); gate(AND, 7, 5, 0)
        output([7 8])
        """;

    /**
     * With K 3, six steps, each with three GATES: m of the step ahead and an INPUT, an OUTPUT; e of two INPUTS; q of m
     * and e. CHOSEN of q is {q ahead, INPUT, e}; by {m, two INPUTS} it is one later, and e is spared.
     */
    private static final String SIX_STEPS = """
        inputs(3); 9 * input(); gate(MOST, 0, 1, 2)
        gate(XOR, 9, 3, 0); gate(OR, 4, 5, 0); gate(AND, 10, 11, 0)
        gate(XOR, 12, 6, 0); gate(OR, 7, 8, 0); gate(AND, 13, 14, 0)
        gate(XOR, 15, 3, 0); gate(OR, 4, 5, 0); gate(AND, 16, 17, 0)
        gate(XOR, 18, 6, 0); gate(OR, 7, 8, 0); gate(AND, 19, 20, 0)
        gate(XOR, 21, 3, 0); gate(OR, 4, 5, 0); gate(AND, 22, 23, 0)
        gate(XOR, 24, 6, 0); gate(OR, 7, 8, 0); gate(AND, 25, 26, 0)
        output([10 13 16 19 22 25 27]); map() = 19
        """;

    private TableEdges() {
    }

    static void all(Edges edges) {
        map(edges);
        mapped(edges);
        again(edges);
        due(edges);
        choice(edges);
        chosen(edges);
        table(edges);
        cares(edges);
        holds(edges);
        whole(edges);
        slow(edges);
    }

    private static void map(Edges edges) {
        edges.sentence(8, "MAP: how many TABLES.");
        edges.run("none", "map() = 0; input(); map() = 0; output(0); map() = 0; register(); map() = 0");
        edges.run("20 of 40 NODES, each a ROOT", """
            input(); gate(NOT, [0..19], 0, 0); 19 * register() = [21..39]
            feed(21, 1); feed(22, 2); feed(23, 3); feed(24, 4); feed(25, 5); feed(26, 6); feed(27, 7); feed(28, 8)
            feed(29, 9); feed(30, 10); feed(31, 11); feed(32, 12); feed(33, 13); feed(34, 14); feed(35, 15)
            feed(36, 16); feed(37, 17); feed(38, 18); feed(39, 19); output(20); map() = 20; mapped(0) = 20
            """);
        edges.sentence(8, "TABLES: GATES that are ROOTS, and those in the CHOSEN of TABLES.");
        edges.run("no LEAF, no GATE that no TABLE has", """
            inputs(3); 4 * input(); gate(MOST, 0, 1, 2); gate(AND, 4, 3, 0); gate(NOT, 5, 0, 0); output(0); map() = 0
            output(5); map() = 2; table([4..6], 0) = 1 1 0; inputs(4); map() = 1; table([4..6], 0) = 0 1 0
            """);
        edges.run("a ROOT that is the CHOSEN of another one, once", """
            inputs(3); 4 * input(); gate(MOST, 0, 1, 2); gate(AND, 4, 3, 0); output([4 5]); register(); feed(6, 4)
            map() = 2
            """);
        edges.run("a GATE behind a REGISTER is no TABLE by what comes of that", """
            input(); gate(NOT, 0, 0, 0); register(); gate(NOT, 2, 0, 0); output(3); map() = 1; feed(2, 1); map() = 2
            """);
        edges.sentence(8, "MAP: CHOSEN of each GATE is its NEAR CUT");
        edges.run("again, behind AGAIN", ONE_LATER + """
            map() = 4; chosen([5..8]) = {3 4} {2 3 4} {1 6} {1 5 6}; again(1) = 1; chosen(8) = {3 4 7}
            map() = 4; chosen([5..8]) = {3 4} {2 3 4} {1 6} {1 5 6}
            """);
        edges.run("of a GATE that is no TABLE, too", "input(); gate(NOT, 0, 0, 0); map() = 0; chosen(1) = {0}");
    }

    private static void mapped(Edges edges) {
        edges.sentence(8, "it is MAPPED then, till a NODE, a FEED, an OUTPUT is told or K is another one.");
        String one = "3 * input(); register(); gate(MOST, 0, 1, 2); output(4); count(6) = 0; map() = 1; count(6) = 1\n";
        String not = "; count(6) = 0; chosen(4) = 0; mapped(0) = -1; table(4, 0) = -1; again(0) = -1; comes(0) = -1";
        edges.run("an INPUT is told", one + "input() = 5" + not);
        edges.run("a GATE is told", one + "gate(NOT, 4, 0, 0) = 5" + not);
        edges.run("a REGISTER is told", one + "register() = 5" + not);
        edges.run("a FEED is told", one + "feed(3, 4) = true" + not);
        edges.run("the FEED that was is told", one + "feed(3, 3) = true" + not);
        edges.run("an OUTPUT is told", one + "output(0) = 2" + not);
        edges.run("K is another one", one + "inputs(5) = 4" + not);
        edges.run("nothing of these", one + """
            set(0, true) = 0; clock(64) = 0; inputs(4) = 4; depth() = 1; map() = 1; again(5) = 0; slow(0) = 4
            is(4) = 0; comes(4) = 0; differs(4, 1) = 1; clusters(8, 16) = 1; cross(1, 6) = 0; count(6) = 1
            """);
        edges.run("40 there are, 12 there are", """
            39 * input(); gate(NOT, 0, 0, 0); output([28..39]); map() = 1
            input() = -1; register() = -1; gate(NOT, 0, 0, 0) = -1; output(0) = -1; feed(39, 0) = false; count(6) = 1
            """);
    }

    private static void again(Edges edges) {
        edges.sentence(9, "AGAIN: how many TABLES fewer; NONE: others, it is not MAPPED.");
        edges.run("the least and the greatest SLACK", TWO_AND_ONE + """
            map() = 3; again([MIN -2 -1 6 7 64 MAX]) = -1; mapped(0) = 3; chosen(6) = {4 5}; count(6) = 1
            again(0) = 1; mapped(0) = 2; again([0..5]) = 0; again([-1 6]) = -1; mapped(0) = 2
            """);
        edges.run("it is not MAPPED", TWO_AND_ONE + """
            again([-1..6]) = -1; map(); inputs(4); again([0 5]) = -1; count(6) = 0; map() = 1; again(0) = 0
            """);
        edges.run("no TABLE", "map() = 0; again([0 5]) = 0; input(); output(0); map() = 0; again([0 5]) = 0");
        edges.run("it stays MAPPED", TWO_AND_ONE + "map(); again(0) = 1; count(6) = 1; mapped([0 1]) = 2 2");
        edges.sentence(9, "AGAIN with a SLACK (0 to 5)");
        for (int slack = 0; slack <= 5; slack++) {
            edges.run("a SLACK of " + slack, SIX_STEPS + "again(" + slack + ") = " + slack + "; mapped([0 1]) = "
                    + (19 - slack) + " " + (7 + slack) + "; depth() = 7");
        }
        edges.run("the steps that are one later", SIX_STEPS + """
            depth() = 7; mapped(1) = 7; chosen([12 15 27]) = {3 9 11} {6 12 14} {6 24 26}
            again(1) = 1; chosen([12 15 27]) = {4 5 10} {6 12 14} {6 24 26}
            again(5) = 4; chosen([12 15 24 27]) = {4 5 10} {7 8 13} {4 5 22} {6 24 26}; mapped(1) = 12
            """);
    }

    private static void due(Edges edges) {
        edges.sentence(9, "DUE, as all is ahead of it: of a ROOT DEPTH and SLACK, of one in the CHOSEN of a TABLE 1 "
                + "less than that of the TABLE; of several the least.");
        // 9 by {0 2 8} would come to 3: as a ROOT it could, but it is in the CHOSEN of 11.
        String two = """
            inputs(3); 5 * input(); gate(AND, 2, 0, 0); gate(MOST, 0, 2, 5); gate(AND, 1, 5, 0); gate(AND, 7, 4, 0)
            gate(AND, 8, 6, 0); gate(MOST, 3, 9, 3); gate(AND, 10, 3, 0); output([7 8 9 11]); map() = 5; depth() = 3
            chosen([9 11]) = {4 6 7} {3 9}; kept(9, [0..2]) = {4 6 7} {6 8} {0 2 8}
            """;
        edges.run("a ROOT that is in the CHOSEN of a TABLE", two + "again(0) = 0; chosen(9) = {4 6 7}; mapped(1) = 3");
        edges.run("the same with a SLACK of 1", two + "again(1) = 1; chosen(9) = {0 2 8}; mapped(1) = 4");
        // 11 makes the DEPTH 3, so 15, of LEVEL 2, may be one later without a SLACK.
        edges.run("a ROOT alone that is below DEPTH", """
            inputs(3); 9 * input(); gate(MOST, 0, 1, 2); gate(MOST, 9, 3, 4); gate(MOST, 10, 5, 6); output(11)
            gate(OR, 7, 8, 0); gate(OR, 6, 12, 0); gate(XOR, 13, 5, 0); gate(AND, 14, 12, 0); output([14 15])
            map() = 7; depth() = 3; table([14 15], 1) = 2; again(0) = 1; chosen(15) = {7 8 14}; table(15, 1) = 3
            mapped(1) = 3
            """);
    }

    private static void choice(Edges edges) {
        edges.sentence(9, "(its CHOSEN in any case)");
        edges.run("a CHOSEN that is later than DUE", ONE_LATER + """
            map(); again(1) = 1; table(8, 1) = 3; depth() = 2; again(0) = 0; chosen(8) = {3 4 7}; table(8, 1) = 3
            """);
        edges.sentence(9, "is DUE at most");
        edges.run("just as DUE, and one later", ONE_LATER + """
            map() = 4; depth() = 2; isCut(8, {3 4 7}) = true; again(0) = 0; chosen(8) = {1 5 6}
            again(1) = 1; chosen(8) = {3 4 7}; table(8, 1) = 3
            """);
        edges.sentence(9, "that one, by which there are the fewest TABLES in all; of these that by which its ARRIVAL "
                + "is least; of these its CHOSEN, or else the first in ROW.");
        edges.run("the first in ROW of two with the fewest", TWO_AND_ONE + """
            map() = 3; kept(6, [0..3]) = {4 5} {0 2 5} {1 3 4} 0; again(0) = 1; chosen(6) = {0 2 5}
            """);
        edges.run("its CHOSEN of equal ones, though another one is ahead in ROW", """
            inputs(3); 4 * input(); gate(AND, 0, 3, 0); gate(AND, 1, 2, 0); gate(MOST, 4, 5, 1); output([4 5 6])
            map() = 3; kept(6, [0..2]) = {1 2 4} {1 4 5} 0; chosen(6) = {1 4 5}; again([0..5]) = 0
            chosen(6) = {1 4 5}
            """);
        edges.run("its CHOSEN that is no KEPT CUT", """
            inputs(3); 9 * input(); gate(MOST, 0, 1, 2); gate(MOST, 3, 4, 5); gate(MOST, 6, 7, 8)
            gate(NOT, [9..14], 0, 0); gate(MOST, 15, 16, 17); output(18); map() = 4
            again([0..5]) = 0; chosen(18) = {15 16 17}
            """);
        // 10 is spared 6 by {2 5 8}, one later; then 11 is sooner by {0 6 8} than by {0 10}, with as many TABLES.
        edges.run("the least ARRIVAL of equal ones", """
            inputs(3); 6 * input(); gate(MOST, 2, 2, 5); gate(AND, 6, 4, 0); gate(AND, 7, 3, 0); gate(AND, 3, 6, 0)
            gate(AND, 6, 8, 0); gate(AND, 10, 0, 0); output([8 9 11]); map() = 6; chosen(11) = {0 10}
            again(1) = 1; chosen([10 11]) = {2 5 8} {0 6 8}; table([10 11], 1) = 3; table([6 10], 0) = 1 0
            mapped([0 1]) = 5 3
            """);
        // By {1 7 9} and {7 8 9} 12 comes to 3, by its CHOSEN and by {1 7 10} to 4, each with five TABLES.
        edges.run("the first in ROW of those with the least ARRIVAL", """
            inputs(3); 5 * input(); gate(MOST, 3, 2, 1); gate(AND, 5, 5, 0); gate(AND, 6, 0, 0); gate(AND, 1, 1, 0)
            gate(AND, 2, 4, 0); gate(MOST, 7, 7, 9); gate(AND, 8, 10, 0); gate(MOST, 7, 7, 11); output([6 7 8 12])
            map() = 6; chosen([10 12]) = {0 6 9} {7 8 10}; kept(12, [0..3]) = {1 7 9} {1 7 10} {7 8 9} {7 8 10}
            again(1) = 1; chosen([10 12]) = {2 4 7} {1 7 9}; table([10 12], 1) = 3
            """);
        edges.run("a TABLE that the next one has, too, is not spared", """
            inputs(3); 4 * input(); gate(AND, 0, 2, 0); gate(AND, 1, 3, 0); gate(AND, 4, 5, 0); gate(OR, 4, 5, 0)
            output([6 7]); map() = 4; again([0 5]) = 0; chosen([6 7]) = {4 5}
            """);
        edges.sentence(9, "TABLE by TABLE, by numbers (those that are TABLES as its turn comes)");
        edges.run("the lower one first", """
            inputs(3); 4 * input(); gate(AND, 0, 2, 0); gate(AND, 1, 3, 0); gate(AND, 4, 4, 0); gate(AND, 5, 4, 0)
            gate(AND, 6, 5, 0); output([7 8]); map() = 5; again(1) = 2; chosen([7 8]) = {0 2 5}; mapped(0) = 3
            """);
        // By {0 2 4} as by {0 2 5} there would be the same TABLES, but 6 is none.
        edges.run("no GATE that is no TABLE", """
            inputs(3); 4 * input(); gate(AND, 1, 3, 0); gate(AND, 2, 4, 0); gate(MOST, 5, 2, 0); gate(MOST, 6, 4, 4)
            output(7); map() = 2; table([4..7], 0) = 1 0 0 1; again(1) = 0; chosen([6 7]) = {0 2 5} {0 2 4}
            """);
    }

    private static void chosen(Edges edges) {
        edges.sentence(18, "CHOSEN of a GATE as bits; 0: others, it is not MAPPED.");
        edges.run("it is not MAPPED", TWO_AND_ONE + "chosen([4..6]) = 0; map(); inputs(4); chosen([4..6]) = 0");
        edges.run("no GATE", TWO_AND_ONE + "register(); map(); chosen([0 3 7 8]) = 0; chosen(" + WRONG + ") = 0");
        edges.run("bits above 31", "38 * input(); register(); gate(AND, 37, 38, 0); map(); chosen(39) = {37 38}");
        edges.run("K NODES", """
            inputs(6); 6 * input(); gate(MOST, 0, 1, 2); gate(MOST, 3, 4, 5); gate(XOR, 6, 7, 0); map()
            chosen(8) = {0 1 2 3 4 5}
            """);
        edges.sentence(18, "CHOSEN of a GATE: a CUT.");
        edges.run("behind MAP and behind AGAIN", ONE_LATER + """
            map(); isCut(8, {1 5 6}) = true; chosen(8) = {1 5 6}; again(1); isCut(8, {3 4 7}) = true
            chosen(8) = {3 4 7}
            """);
    }

    private static void table(Edges edges) {
        edges.sentence(19, "Of a GATE, what 0: 1 a TABLE (0: not), 1: ARRIVAL, 2: USES, 3: with which it is PAIRED "
                + "(NONE: none, no TABLE), 4: its CELL (NONE: no TABLE), 5: CARES; NONE: others, it is not MAPPED.");
        edges.run("the least and the greatest what", TWO_AND_ONE + """
            map(); table(4, [MIN -2 -1 0 1 2 3 4 5 6 7 64 MAX]) = -1 -1 -1 1 1 1 -1 0 3 -1 -1 -1 -1
            """);
        edges.run("no GATE", TWO_AND_ONE + "register(); map(); table([0 3 7 8], [0..5]) = -1; table(" + WRONG + ", [0 "
                + "5]) = -1");
        edges.run("it is not MAPPED", TWO_AND_ONE + """
            table([4..6], [0..5]) = -1; map(); table(6, [0..5]) = 1 2 0 -1 2 3; input(); table([4..6], [0..5]) = -1
            """);
        edges.run("no TABLE", TWO_AND_ONE + "map(); again(0); table(4, [0..5]) = 0 1 0 -1 -1 3");
        edges.run("a PAIR, and one that is left", """
            2 * input(); gate([1..3], 0, 1, 0); output([2..4]); map() = 3; table([2..4], 3) = 3 2 -1
            table([2..4], 4) = 0 0 1
            """);
        edges.sentence(19, "ARRIVAL: 0 of a LEAF; of a GATE 1 more than the greatest in its CHOSEN.");
        edges.run("of LEAVES alone, and one more", TWO_AND_ONE + "map(); table([4..6], 1) = 1 1 2; mapped(1) = 2");
        edges.run("of a GATE that is no TABLE, behind AGAIN", """
            inputs(3); 5 * input(); gate(AND, 2, 0, 0); gate(MOST, 0, 2, 5); gate(AND, 1, 5, 0); gate(AND, 7, 4, 0)
            gate(AND, 8, 6, 0); gate(MOST, 3, 9, 3); gate(AND, 10, 3, 0); output([7 8 9 11]); map() = 5
            table([9..11], 1) = 2 3 3; again(1) = 1; table([9..11], 1) = 3 4 4; table(10, 0) = 0
            """);
        edges.run("of a REGISTER none, whatever its FEED", """
            inputs(3); 4 * input(); gate(MOST, 0, 1, 2); gate(AND, 4, 3, 0); register(); feed(6, 5); gate(NOT, 6, 0, 0)
            output(7); map() = 3; table([4 5 7], 1) = 1 2 1
            """);
        edges.sentence(19, "USES of a NODE: TABLES in whose CHOSEN it is.");
        edges.run("none, one, two, and no GATE that is no TABLE", """
            inputs(3); 6 * input(); gate(MOST, 0, 1, 2); gate(AND, 6, 3, 0); gate(OR, 6, 4, 0); gate(XOR, 6, 5, 0)
            output(7); map() = 2; table([6 7], 2) = 1 0; chosen(8) = {4 6}
            output(8); map() = 3; table(6, 2) = 2; output(6); map() = 3; table(6, 2) = 2
            """);
    }

    private static void cares(Edges edges) {
        edges.sentence(19, "CARES of a GATE: NODES of its CHOSEN on which what it HOLDS hangs (bits by their place in "
                + "it).");
        edges.run("none, and all 6", """
            inputs(6); 6 * input(); gate(XOR, 0, 0, 0); gate(XOR, 0, 1, 0); gate(XOR, 7, 2, 0); gate(XOR, 8, 3, 0)
            gate(XOR, 9, 4, 0); gate(XOR, 10, 5, 0); map(); table([6..11], 5) = 0 3 7 15 31 63
            """);
        edges.run("by the place, not by the number", """
            7 * input(); gate(AND, 4, 6, 0); gate(XOR, 5, 5, 0); gate(OR, 8, 6, 0); map(); chosen([7 9]) = {4 6} {5 6}
            table([7..9], 5) = 3 0 2
            """);
        edges.run("the last of 6 alone, and all but the last", """
            inputs(6); 6 * input(); gate(MOST, 0, 1, 2); gate(AND, 3, 4, 0); gate(XOR, 6, 7, 0); gate(AND, 8, 5, 0)
            gate(XOR, 9, 9, 0); gate(OR, 10, 5, 0); gate(NOT, 5, 0, 0); gate(OR, 5, 12, 0); gate(AND, 8, 13, 0)
            map(); chosen([9 11 14]) = {0 1 2 3 4 5}; table([9 11 14], 5) = 63 32 31
            """);
    }

    private static void holds(Edges edges) {
        edges.sentence(20, "HOLDS; NoSuchElementException: others, it is not MAPPED.");
        edges.run("it is not MAPPED", TWO_AND_ONE + """
            holds([0 4 6 7]) = throws; map(); holds(4) = 8; register(); holds([4 6]) = throws
            """);
        edges.run("no GATE", TWO_AND_ONE + "register(); map(); holds([0 3 7 8]) = throws; holds(" + WRONG + ") = "
                + "throws");
        edges.run("nothing is changed by it", TWO_AND_ONE + """
            map() = 3; holds(40) = throws; count(6) = 1; holds(6) = 8; mapped(0) = 3
            """);
        edges.run("the last of 40", "39 * input(); gate(NAND, 38, 0, 0); map(); holds(39) = 7; "
                + "holds([38 40]) = throws");
        edges.sentence(20, "HOLDS of a GATE: by its CHOSEN, NODES upwards, the i-th being bit i of j: bit j is what "
                + "the GATE is then (2 to the power of its NODES bits).");
        edges.run("1 to 6 NODES, the last bit alone", """
            inputs(6); 6 * input(); gate(AND, 0, 0, 0); gate(AND, 0, 1, 0); gate(AND, 7, 2, 0); gate(AND, 8, 3, 0)
            gate(AND, 9, 4, 0); gate(AND, 10, 5, 0); map()
            holds([6..11]) = 2 8 128 32768 2147483648 LMIN
            """);
        edges.run("1 to 6 NODES, all bits but the last", """
            inputs(6); 6 * input(); gate(NOT, 0, 0, 0); gate(NAND, 0, 1, 0); gate(AND, 0, 1, 0); gate(NAND, 8, 2, 0)
            gate(AND, 8, 2, 0); gate(NAND, 10, 3, 0); gate(AND, 10, 3, 0); gate(NAND, 12, 4, 0); gate(AND, 12, 4, 0)
            gate(NAND, 14, 5, 0); map(); holds([6 7 9 11 13 15]) = 1 7 127 32767 2147483647 LMAX
            """);
        edges.run("no bit and every bit, of 1, 5 and 6 NODES", """
            inputs(6); 6 * input(); gate(XOR, 0, 0, 0); gate(NOT, 6, 0, 0)
            gate(MOST, 0, 1, 2); gate(MOST, 8, 3, 4); gate(XOR, 9, 9, 0); gate(NOT, 10, 0, 0)
            gate(XOR, 9, 5, 0); gate(XOR, 12, 12, 0); gate(NOT, 13, 0, 0); map()
            holds([6 7 10 11 13 14]) = 0 3 0 4294967295 0 -1
            """);
        edges.run("NODES upwards, however the SOURCES are told", """
            3 * input(); gate(PICK, 2, 1, 0); gate(PICK, 0, 1, 2); map(); holds([3 4]) = 202 216
            """);
        edges.run("a NODE and one BELOW it, each by itself", """
            inputs(3); 4 * input(); gate(MOST, 0, 1, 2); gate(PICK, 4, 0, 3); map(); chosen(5) = {0 3 4}; holds(5) = 172
            """);
        edges.run("by another CHOSEN", ONE_LATER + """
            map(); holds(8) = 72; again(1); chosen(8) = {3 4 7}; holds(8) = 224; map(); holds(8) = 72
            """);
    }

    private static void whole(Edges edges) {
        edges.sentence(21, "What 0: TABLES, 1: the greatest ARRIVAL of ROOTS (0: none), 2: PAIRS, 3: MOST PAIRS (NONE: "
                + "more than 14 TABLES), 4: CELLS, 5: packed REGISTERS; NONE: others, it is not MAPPED.");
        edges.run("the least and the greatest what", TWO_AND_ONE + """
            map(); mapped([MIN -2 -1 0 1 2 3 4 5 6 7 64 MAX]) = -1 -1 -1 3 2 0 0 3 0 -1 -1 -1 -1
            """);
        edges.run("it is not MAPPED", TWO_AND_ONE + "mapped([-1..6]) = -1; map(); register(); mapped([-1..6]) = -1");
        edges.run("nothing", "map(); mapped([0..5]) = 0");
        edges.run("no ROOT", "2 * input(); gate(AND, 0, 1, 0); map(); mapped([0..5]) = 0");
        edges.run("ROOTS that are LEAVES", "input(); register(); output(0); map(); mapped([0..5]) = 0 0 0 0 1 0");
        edges.run("no GATE that is no ROOT", """
            inputs(3); 4 * input(); gate(MOST, 0, 1, 2); gate(AND, 4, 3, 0); output(4); map() = 1; table(5, 1) = 2
            mapped(1) = 1
            """);
        String tables = "2 * input(); 12 * gate(AND, 0, 1, 0); output([2..13]); ";
        edges.run("13 TABLES", "2 * input(); 11 * gate(AND, 0, 1, 0); output([2..12]); gate(OR, 0, 1, 0); register(); "
                + "gate(XOR, 0, 1, 0); output(15); feed(14, 13); map() = 13; mapped([0 2 3]) = 13 6 6");
        edges.run("14 TABLES", tables + "2 * gate(OR, 0, 1, 0); 2 * register(); feed(16, 14); feed(17, 15); "
                + "map() = 14; mapped([0 2 3 4 5]) = 14 7 7 7 2");
        edges.run("15 TABLES", tables + "3 * gate(OR, 0, 1, 0); 3 * register(); feed(17, 14); feed(18, 15); "
                + "feed(19, 16); map() = 15; mapped([0 2 3 4 5]) = 15 7 -1 8 3");
        edges.run("14 TABLES that are no PAIRS", "inputs(3); 3 * input(); 12 * gate(MOST, 0, 1, 2); output([3..14]); "
                + "2 * gate(MOST, 0, 1, 2); 2 * register(); feed(17, 15); feed(18, 16); map() = 14; "
                + "mapped([0 2 3 4]) = 14 0 0 14");
    }

    private static void slow(Edges edges) {
        edges.sentence(29, "The i-th (from 0) of SLOW; NONE: others, none such, no ROOT, it is not MAPPED.");
        edges.run("the first, the last and one more", TWO_AND_ONE + """
            map(); slow([MIN -2 -1 0 1 2 3 4 39 40 64 MAX]) = -1 -1 -1 6 4 0 -1 -1 -1 -1 -1 -1
            """);
        edges.run("it is not MAPPED", TWO_AND_ONE + "slow([-1..3]) = -1; map(); slow(0) = 6; inputs(6); slow(0) = -1");
        edges.run("no ROOT", "map(); slow(0) = -1; 2 * input(); gate(AND, 0, 1, 0); map(); slow([0 1]) = -1");
        edges.run("a LEAF alone", "3 * input(); output([2 1]); map(); slow([0 1]) = 1 -1; register(); feed(3, 0); "
                + "map(); slow([0 1]) = 0 -1");
        edges.sentence(29, "SLOW: a way from the lowest ROOT with the greatest ARRIVAL: from each on to the lowest one "
                + "in its CHOSEN with the greatest ARRIVAL, up to a LEAF.");
        edges.run("the lowest of equal ROOTS, told last", """
            inputs(3); 4 * input(); gate(MOST, 0, 1, 2); gate(AND, 4, 3, 0); gate(OR, 4, 3, 0); output([6 5 4 0]); map()
            slow([0..3]) = 5 4 0 -1
            """);
        edges.run("the FEED of a REGISTER, and no further than a REGISTER", """
            inputs(3); 3 * input(); register(); gate(MOST, 1, 2, 3); gate(AND, 4, 0, 0); feed(3, 5); output(4); map()
            slow([0..3]) = 5 4 1 -1; feed(3, 3); output(5); register(); map(); slow([0..3]) = 5 4 1 -1
            """);
        edges.run("a REGISTER is the lowest", """
            register(); input(); gate(XOR, 1, 0, 0); feed(0, 2); map(); slow([0..2]) = 2 0 -1
            """);
        edges.run("not the lowest, but with the greatest ARRIVAL", """
            inputs(3); 6 * input(); gate(AND, 0, 1, 0); gate(MOST, 2, 3, 4); gate(MOST, 7, 5, 6); gate(XOR, 8, 2, 0)
            output([6 9]); map(); chosen([8 9]) = {5 6 7} {2 8}; table([6..9], 1) = 1 1 2 3
            slow([0..4]) = 9 8 6 0 -1
            """);
        edges.run("by what is CHOSEN again", ONE_LATER + """
            map(); slow([0..3]) = 7 6 2 -1; again(1); slow([0..4]) = 8 7 6 2 -1
            """);
    }
}
