/** Boundary cases of promises 10, 11, 26 to 28 and 30: what NODES are, clock by clock, and counts. */
final class SignalEdges {
    private static final String WRONG = Script.WRONG;

    /** Seven REGISTERS, 0 to 6, that count the CLOCKS: 0 the lowest bit, 6 the highest. */
    private static final String COUNTER = """
        7 * register(); gate(NOT, 0, 0, 0); gate(XOR, 1, 0, 0); gate(AND, 0, 1, 0); gate(XOR, 2, 9, 0)
        gate(AND, 9, 2, 0); gate(XOR, 3, 11, 0); gate(AND, 11, 3, 0); gate(XOR, 4, 13, 0); gate(AND, 13, 4, 0)
        gate(XOR, 5, 15, 0); gate(AND, 15, 5, 0); gate(XOR, 6, 17, 0)
        feed(0, 7); feed(1, 8); feed(2, 10); feed(3, 12); feed(4, 14); feed(5, 16); feed(6, 18)
        """;

    private SignalEdges() {
    }

    static void all(Edges edges) {
        set(edges);
        clock(edges);
        is(edges);
        comes(edges);
        differs(edges);
        count(edges);
    }

    private static void set(Edges edges) {
        edges.sentence(10, "An INPUT is 1 or 0: what it was; NONE: others.");
        edges.run("what it was, both ways", """
            input(); set(0, [false true true false false true]) = 0 0 1 1 0 0; is(0) = 1
            """);
        String one = "input(); register(); gate(NOT, 0, 0, 0); map(); ";
        edges.run("no INPUT", one + "set([1 2 3], [true false]) = -1; set(" + WRONG + ", [true false]) = -1");
        edges.run("a refused one changes nothing", one + """
            set([1 2 3 64 -64], true) = -1; is([0..2]) = 0 0 1; set(0, true) = 0; set([1 2 64 -64], false) = -1
            is([0..2]) = 1 0 0; count(6) = 1
            """);
        edges.run("the first and the last of 40", """
            40 * input(); set([0 39], true) = 0; is([0 1 38 39]) = 1 0 0 1; set([0 39], false) = 1; is([0 39]) = 0
            """);
        edges.run("it stays over a CLOCK and over what is told", "input(); set(0, true); clock(64); input(); "
                + "register(); is([0..2]) = 1 0 0; inputs(6); map(); is(0) = 1; set(0, true) = 1");
    }

    private static void clock(Edges edges) {
        edges.sentence(11, "So many CLOCKS (1 to 64): how many REGISTERS are others by the last one; NONE: others.");
        edges.run("1 and 64", COUNTER + """
            clock(1) = 1; is([0..6]) = 1 0 0 0 0 0 0; clock(1) = 2; is([0..6]) = 0 1 0 0 0 0 0
            clock(61) = 1; is([0..6]) = 1 1 1 1 1 1 0; clock(1) = 7; is([0..6]) = 0 0 0 0 0 0 1
            clock(64) = 7; is([0..6]) = 0
            """);
        edges.run("64 at once", COUNTER + "clock(64) = 7; is([0..6]) = 0 0 0 0 0 0 1");
        edges.run("63 at once", COUNTER + "clock(63) = 1; is([0..6]) = 1 1 1 1 1 1 0");
        edges.run("0 and 65, and what is refused changes nothing", COUNTER + """
            clock(3) = 1; map(); clock([MIN -64 -1 0 65 66 128 MAX]) = -1; is([0..6]) = 1 1 0 0 0 0 0; count(6) = 1
            clock(1) = 3
            """);
        edges.run("by the last one alone", COUNTER + "clock(2) = 2; clock(2) = 3; clock(4) = 4; "
                + "is([0..6]) = 0 0 0 1 0 0 0");
        edges.run("none", "clock([1 64]) = 0; 2 * input(); set(0, true); clock([1 64]) = 0; register(); clock(64) = 0; "
                + "feed(2, 0); clock(2) = 0; is(2) = 1");
        edges.run("all 40", "39 * register(); gate(NOT, 0, 0, 0); feed([0..38], 39); clock(1) = 39; is([0..38]) = 1; "
                + "clock(2) = 39; is([0..38]) = 1");
        edges.sentence(11, "CLOCK: each REGISTER is what its FEED was, all at once.");
        edges.run("two that change places", """
            input(); 2 * register(); feed(1, 0); set(0, true); clock(1) = 1; feed(1, 2); feed(2, 1); is([1 2]) = 1 0
            clock(1) = 2; is([1 2]) = 0 1; clock(1) = 2; is([1 2]) = 1 0; clock(64) = 2; is([1 2]) = 1 0
            """);
        edges.run("a row, one step a CLOCK, upwards and downwards", """
            3 * register(); input(); feed(0, 3); feed(1, 0); feed(2, 1); set(3, true); clock(1) = 1; set(3, false)
            is([0..2]) = 1 0 0; clock(1) = 2; is([0..2]) = 0 1 0; clock(1) = 2; is([0..2]) = 0 0 1; clock(1) = 1
            new
            3 * register(); input(); feed(2, 3); feed(1, 2); feed(0, 1); set(3, true); clock(1) = 1; set(3, false)
            is([0..2]) = 0 0 1; clock(1) = 2; is([0..2]) = 0 1 0; clock(1) = 2; is([0..2]) = 1 0 0; clock(1) = 1
            """);
        edges.run("itself, an INPUT, a GATE", """
            input(); 3 * register(); feed(2, 0); gate(NOT, 1, 0, 0); feed(3, 4); set(0, true); clock(1) = 2
            is([1..4]) = 0 1 1 1
            """);
        edges.run("a FEED told anew from the next one on", """
            input(); register(); set(0, true); feed(1, 0); is(1) = 0; clock(1) = 1; feed(1, 1); set(0, false)
            clock(1) = 0
            is(1) = 1
            """);
    }

    private static void is(Edges edges) {
        edges.sentence(26, "What a NODE is; NONE: others.");
        edges.run("no NODE", "input(); set(0, true); is(" + WRONG + ") = -1; is([0 1]) = 1 -1");
        edges.run("the first and the last of 40", "input(); gate(NOT, [0..38], 0, 0); is([0 1 38 39 40]) = 0 1 0 1 -1");
        edges.sentence(26, "Each INPUT and each REGISTER is 0 or 1 (at first 0); a GATE is what its KIND makes of its "
                + "SOURCES.");
        edges.run("at first, and not MAPPED", """
            input(); register(); gate(NAND, 0, 1, 0); gate(OR, 0, 1, 0); is([0..3]) = 0 0 1 0; count(6) = 0
            """);
        edges.run("a GATE at once, a REGISTER by the CLOCK", """
            input(); register(); gate(OR, 0, 1, 0); feed(1, 2); set(0, true); is([0..2]) = 1 0 1; clock(1) = 1
            set(0, false) = 1; is([0..2]) = 0 1 1
            """);
    }

    private static void comes(Edges edges) {
        edges.sentence(27, "What a NODE is by TABLES; NONE: others, it is not MAPPED.");
        String one = "input(); register(); gate(NAND, 0, 1, 0); ";
        edges.run("it is not MAPPED", one + "comes([0..3]) = -1; map(); comes([0..3]) = 0 0 1 -1; register(); "
                + "comes([0..3]) = -1");
        edges.run("no NODE", one + "map(); set(0, true); comes(" + WRONG + ") = -1; comes([0 3]) = 1 -1");
        edges.run("the first and the last of 40", "input(); gate(NOT, [0..38], 0, 0); map(); "
                + "comes([0 1 38 39 40]) = 0 1 0 1 -1; set(0, true); comes([0 1 38 39 40]) = 1 0 1 0 -1");
        edges.sentence(27, "By TABLES: a GATE is the bit of what it HOLDS that its CHOSEN tell, these by TABLES, too.");
        edges.run("6 NODES, the first and the last bit", """
            inputs(6); 6 * input(); gate(MOST, 0, 1, 2); gate(AND, 0, 1, 0); gate(AND, 7, 2, 0); gate(AND, 8, 3, 0)
            gate(AND, 9, 4, 0); gate(AND, 10, 5, 0); gate(NOT, 11, 0, 0); map(); comes([6 11 12]) = 0 0 1
            set([0..4], true); comes([10 11 12]) = 1 0 1; set(5, true); comes([6 11 12]) = 1 1 0
            set(0, false); comes([11 12]) = 0 1
            """);
        edges.run("TABLE behind TABLE, and a GATE that is no TABLE", """
            inputs(3); 5 * input(); gate(OR, 4, 3, 0); gate(OR, 2, 5, 0); gate(XOR, 6, 1, 0); gate(AND, 7, 5, 0)
            output([7 8]); map(); set(3, true); comes([5..8]) = 1; set(1, true); comes([5..8]) = 1 1 0 0
            again(1) = 1; table(5, 0) = 0; comes([5..8]) = 1 1 0 0; set(1, false); comes([5..8]) = 1
            """);
        edges.run("by a REGISTER", """
            register(); gate(NOT, 0, 0, 0); feed(0, 1); map(); comes([0 1]) = 0 1; clock(1); comes([0 1]) = 1 0
            clock(64); comes([0 1]) = 1 0
            """);
    }

    private static void differs(Edges edges) {
        edges.sentence(28, "DIFFERS: 1, 0; NONE: others.");
        String one = "2 * input(); register(); gate(AND, 0, 2, 0); gate(XOR, 0, 1, 0); feed(2, 0); ";
        edges.run("no INPUT", one + "differs(4, [2 3 4 5]) = -1; differs(4, " + WRONG + ") = -1");
        edges.run("no NODE", one + "differs(5, 0) = -1; differs(" + WRONG + ", 0) = -1; differs(" + WRONG + ", 2) = "
                + "-1");
        edges.run("the first and the last of 40", "39 * input(); gate(XOR, 0, 38, 0); "
                + "differs(39, [0 1 38 39]) = 1 0 1 -1; differs([0 38], [0 38]) = 1 0 0 1");
        edges.run("not MAPPED", one + "count(6) = 0; differs(4, [0 1]) = 1");
        edges.sentence(28, "DIFFERS of a NODE: whether it would be another one, were an INPUT another one.");
        edges.run("an INPUT, itself and another one", one + "differs([0 1], [0 1]) = 1 0 0 1");
        edges.run("a REGISTER, though the INPUT is its FEED", one + "differs(2, [0 1]) = 0; set(0, true); "
                + "differs(2, 0) = 0");
        edges.run("from 0 to 1 and from 1 to 0", one + """
            differs(3, 0) = 0; differs(4, 0) = 1; set(0, true); clock(1) = 1; differs([3 4], 0) = 1; set(0, false)
            differs([3 4], 0) = 1
            """);
        edges.run("two ways that undo one another", "input(); gate(NOT, 0, 0, 0); gate(XOR, 0, 1, 0); "
                + "gate(OR, 0, 1, 0); gate(MOST, 0, 1, 2); differs([1..4], 0) = 1 0 0 0");
        edges.run("nothing is changed by it", one + """
            map(); set(0, true); 2 * differs(4, [0 1]) = 1; is([0..4]) = 1 0 0 0 1; comes(4) = 1; count(6) = 1
            clock(1) = 1; set(0, true) = 1; set(1, true) = 0
            """);
    }

    private static void count(Edges edges) {
        edges.sentence(30, "What 0: NODES, 1: INPUTS, 2: GATES, 3: REGISTERS, 4: OUTPUTS, 5: K, 6: 1 MAPPED (0: not), "
                + "7: ROOTS, as how many; NONE for another what.");
        edges.run("the least and the greatest what", """
            3 * input(); 2 * register(); gate(AND, 0, 1, 0); feed([3 4], 5); output([5 1]); inputs(5)
            count([MIN -64 -2 -1 0 1 2 3 4 5 6 7 8 9 64 MAX]) = -1 -1 -1 -1 6 3 1 2 2 5 0 2 -1 -1 -1 -1
            map(); count([5..8]) = 5 1 2 -1
            """);
        edges.run("nothing", "count([-1..8]) = -1 0 0 0 0 0 4 0 0 -1");
        edges.run("all that can be", "input(); 20 * register(); gate(NOT, [0..18], 0, 0) = [21..39]; output([0..11]); "
                + "inputs(6); map(); count([0..7]) = 40 1 19 20 12 6 1 21");
    }
}
