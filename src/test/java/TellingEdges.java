/** Boundary cases of promises 1 to 7: what is told of the network. */
final class TellingEdges {
    private static final String WRONG = Script.WRONG;

    private TellingEdges() {
    }

    static void all(Edges edges) {
        newObject(edges);
        nodes(edges);
        input(edges);
        gate(edges);
        kinds(edges);
        register(edges);
        feed(edges);
        output(edges);
        roots(edges);
        inputs(edges);
        calls(edges);
    }

    private static void newObject(Edges edges) {
        edges.sentence(1, "`TableMapper()`: Nothing.");
        edges.run("no NODE, no OUTPUT, not MAPPED", "count([0..7]) = 0 0 0 0 0 4 0 0");
        edges.run("nothing to ask", """
            node(0, [0..7]) = -1; near(0, [-1 0]) = -1; cone(0) = -1; kept(0, 0) = 0; isCut(0, [0 1]) = false
            depth() = 0; chosen(0) = 0; table(0, [0..5]) = -1; holds(0) = throws; mapped([0..5]) = -1
            cell(0, [0..4]) = -2; clusters(1, 6) = -1; cluster(1, 6, 0) = -1; cross(1, 6) = -1
            is(0) = -1; comes(0) = -1; differs(0, 0) = -1; slow(0) = -1
            count([0..7]) = 0 0 0 0 0 4 0 0
            """);
        edges.run("nothing to change", """
            gate([0..6], 0, 0, 0) = -1; feed(0, 0) = false; output(0) = -1; set(0, [true false]) = -1
            again([0..5]) = -1; clock([1 64]) = 0
            count([0..7]) = 0 0 0 0 0 4 0 0
            input() = 0
            """);
        edges.run("nothing MAPPED", """
            map() = 0; count(6) = 1; mapped([0..5]) = 0; again([0..5]) = 0
            clusters([1 8], [6 16]) = 0; cross([1 8], [6 16]) = 0; cluster([1 8], [6 16], [-1..1]) = -1
            cell([-1..1], [0..4]) = -2; slow([-1..1]) = -1; comes(0) = -1; chosen(0) = 0; holds(0) = throws
            table(0, [0..5]) = -1; depth() = 0
            """);
        edges.sentence(1, "The constants: `NONE = -1`: None.");
        edges.due("the constant", "NONE", TableMapper.NONE == -1);
        edges.sentence(1, "an object is one network of inputs, gates and registers that is laid onto tables");
        TableMapper one = new TableMapper();
        TableMapper other = new TableMapper();
        one.input();
        one.register();
        one.output(0);
        one.inputs(6);
        one.set(0, true);
        one.map();
        edges.due("two objects", "NODES of the other one", other.count(0) == 0 && other.is(0) == -1);
        edges.due("two objects", "OUTPUTS of the other one", other.count(4) == 0 && other.count(7) == 0);
        edges.due("two objects", "K of the other one", other.count(5) == 4);
        edges.due("two objects", "MAPPED of the other one", other.count(6) == 0);
        edges.due("two objects", "an INPUT of the other one", other.input() == 0 && other.is(0) == 0);
    }

    private static void nodes(Edges edges) {
        edges.sentence(2, "NODES: 40 at most, numbered as told: INPUTS, GATES, REGISTERS.");
        edges.run("the 40th and the 41st, of all three together", """
            13 * input() = [0..12]; 13 * register() = [13..25]; 13 * gate(AND, 0, 13, 0) = [26..38]
            count([0..3]) = 39 13 13 13
            gate(PICK, 38, 25, 12) = 39
            count([0..3]) = 40 13 14 13
            input() = -1; register() = -1; gate([0..6], 0, 0, 0) = -1
            count([0..3]) = 40 13 14 13
            node([0 12 13 25 26 38 39], 0) = 0 0 2 2 1 1 1; node(40, 0) = -1
            """);
        edges.run("the 40th is an INPUT", "39 * register(); input() = 39; input() = -1; node(39, 0) = 0");
        edges.run("the 40th is a REGISTER", "39 * input(); register() = 39; register() = -1; node(39, 0) = 2");
        edges.run("numbers go on behind a call that is refused", """
            input() = 0; gate(7, 0, 0, 0) = -1; register() = 1; gate(AND, 0, 2, 0) = -1; gate(AND, 0, 1, 0) = 2
            output(3) = -1; input() = 3
            """);
    }

    private static void input(Edges edges) {
        edges.sentence(2, "An INPUT: its number; NONE: 40 there are.");
        edges.run("the 40th and the 41st", """
            40 * input() = [0..39]; 2 * input() = -1; count([0..3]) = 40 40 0 0; node(39, 0) = 0; is(39) = 0
            """);
        edges.run("the 41st changes nothing", """
            40 * input(); output(39); map() = 0; input() = -1; count(6) = 1; slow(0) = 39; set(39, true) = 0; is(39) = 1
            """);
        edges.sentence(2, "Each INPUT and each REGISTER is 0 or 1 (at first 0)");
        edges.run("at first", """
            input(); register(); gate(NOT, 0, 0, 0); feed(1, 2); set(0, true); clock(1)
            input(); register(); is([3 4]) = 0; set(0, false); clock(1) = 1; is([0..4]) = 0 1 1 0 0
            """);
        edges.run("the last of 40", "40 * input(); is([0..39]) = 0; set(39, true) = 0; is([38 39]) = 0 1");
        edges.run("the last of 40 REGISTERS", """
            40 * register(); is([0..39]) = 0; clock(64) = 0; is([0..39]) = 0
            """);
    }

    private static void gate(Edges edges) {
        edges.sentence(3, "A GATE (b, c are not looked at, if its KIND has fewer SOURCES): its number; NONE: others, "
                + "40 there are.");
        edges.run("the least and the greatest KIND", """
            3 * input(); gate([MIN -2 -1 7 8 64 MAX], 0, 1, 2) = -1; count(0) = 3
            gate([0..6], 0, 1, 2) = [3..9]; node([3..9], 1) = [0..6]
            """);
        edges.run("NOT looks at one", """
            2 * input(); gate(NOT, [-1 2 MIN MAX], 0, 0) = -1
            gate(NOT, 1, [MIN -1 40 MAX], [MIN -1 40 MAX]) = [2..17]; node(17, [2..4]) = 1 -1 -1
            """);
        edges.run("AND, OR, XOR, NAND look at two", """
            2 * input(); gate([1..4], [-1 2 MIN MAX], 0, 0) = -1; gate([1..4], 0, [-1 2 MIN MAX], 0) = -1
            gate([1..4], 0, 1, [MIN -1 40 MAX]) = [2..17]; node(17, [2..4]) = 0 1 -1
            """);
        edges.run("PICK and MOST look at three", """
            3 * input(); gate([5 6], [-1 3 MIN MAX], 0, 1) = -1; gate([5 6], 0, [-1 3 MIN MAX], 1) = -1
            gate([5 6], 0, 1, [-1 3 MIN MAX]) = -1; count(0) = 3; gate([5 6], 2, 1, 0) = 3 4
            node(4, [2..4]) = 2 1 0
            """);
        edges.run("the 40th and the 41st", """
            input(); gate(NOT, [0..38], 0, 0) = [1..39]; gate([0..6], 0, 0, 0) = -1; count([0 2]) = 40 39
            """);
        edges.run("a refused one changes nothing", """
            input(); gate(NOT, 0, 0, 0); output(1); map() = 1
            gate(7, 0, 0, 0) = -1; gate(NOT, 2, 0, 0) = -1; gate(AND, 0, 2, 0) = -1; gate(PICK, 0, 0, 2) = -1
            count([0..7]) = 2 1 1 0 1 4 1 1; mapped(0) = 1; node(1, 1) = 0; gate(AND, 1, 0, MAX) = 2; count(6) = 0
            """);
    }

    private static void kinds(Edges edges) {
        edges.sentence(3, "A GATE has a KIND and SOURCES, NODES told ahead of it");
        edges.run("the NODE told just ahead, and itself", """
            gate(NOT, 0, 0, 0) = -1; register() = 0; gate(NOT, 1, 0, 0) = -1; gate(NOT, 0, 0, 0) = 1
            gate(AND, 1, 2, 0) = -1; gate(AND, 2, 1, 0) = -1; gate(AND, 1, 0, 0) = 2
            gate(MOST, 3, 2, 1) = -1; gate(MOST, 2, 1, 3) = -1; gate(MOST, 2, 1, 0) = 3
            """);
        edges.run("no NODE at all", "input(); gate(NOT, " + WRONG + ", 0, 0) = -1; gate(AND, 0, " + WRONG + ", 0) = "
                + "-1; gate(PICK, 0, 0, " + WRONG + ") = -1; gate(MOST, " + WRONG + ", 0, 0) = -1; count(0) = 1");
        edges.run("the first and the last of 40", """
            39 * input(); gate(MOST, 38, 0, 38) = 39; node(39, [2..4]) = 38 0 38
            """);
        edges.run("one SOURCE twice and three times", """
            input(); gate([1..4], 0, 0, 0) = [1..4]; gate([5 6], 0, 0, 0) = 5 6
            is([1..6]) = 0 0 0 1 0 0; set(0, true); is([1..6]) = 1 1 0 0 1 1
            """);
        String words = "5 PICK (three: the second, if the first is 1, else the third), "
                + "6 MOST (three: 1, if two or more are 1)";
        edges.sentence(3, words);
        StringBuilder calls = new StringBuilder("3 * input(); gate([0..6], 0, 1, 2) = [3..9]\n");
        for (int bits = 0; bits < 8; bits++) {
            int a = bits & 1;
            int b = bits >> 1 & 1;
            int c = bits >> 2;
            int[] due = {1 - a, a * b, a + b > 0 ? 1 : 0, a + b == 1 ? 1 : 0, 1 - a * b, a == 1 ? b : c,
                a + b + c >= 2 ? 1 : 0};
            calls.append("set(0, ").append(a == 1).append("); set(1, ").append(b == 1).append("); set(2, ")
                    .append(c == 1).append("); is([3..9]) =");
            for (int one : due) {
                calls.append(' ').append(one);
            }
            calls.append('\n');
        }
        edges.run("none, one, two and three of the SOURCES are 1", calls.toString());
        edges.sentence(3, "0 NOT (one), 1 AND, 2 OR, 3 XOR, 4 NAND (two)");
        edges.run("how many SOURCES each KIND has", """
            3 * input(); gate([0..6], 0, 1, 2)
            node(3, [2..4]) = 0 -1 -1; node([4..7], [2..4]) = 0 1 -1 0 1 -1 0 1 -1 0 1 -1
            node([8 9], [2..4]) = 0 1 2 0 1 2; node([3..9], 7) = 1 2 2 2 2 3 3
            """);
    }

    private static void register(Edges edges) {
        edges.sentence(4, "A REGISTER: its number; NONE: 40 there are.");
        edges.run("the 40th and the 41st", """
            40 * register() = [0..39]; 2 * register() = -1; count([0..3]) = 40 0 0 40; node([0 39 40], 0) = 2 2 -1
            """);
        edges.run("the 41st changes nothing", """
            40 * register(); map() = 0; register() = -1; count(6) = 1; mapped(4) = 40; feed(39, 0) = true
            node(39, 2) = 0
            """);
        edges.sentence(4, "A REGISTER has a FEED, any NODE (at first itself).");
        edges.run("at first", "input(); 39 * register(); node([1..39], 2) = [1..39]; count(7) = 39");
    }

    private static void feed(Edges edges) {
        edges.sentence(5, "A REGISTER has a FEED, any NODE (at first itself).");
        edges.run("the lowest, the highest, itself, one told later", """
            input(); register(); register(); 36 * gate(NOT, 0, 0, 0); register() = 39
            feed(1, [0 39 38 2 1]) = true; node(1, 2) = 1; feed(39, 0) = true; node(39, 2) = 0
            feed(2, 39) = true; node(2, 2) = 39; feed(1, 3) = true; node([1 2 39], 2) = 3 39 0
            """);
        edges.sentence(5, "The FEED of a REGISTER: true; false: others.");
        String wrong = "input(); gate(NOT, 0, 0, 0); register(); map() = 0; ";
        edges.run("no REGISTER", wrong + "feed(" + WRONG + ", 0) = false; feed([0 1 3], 0) = false");
        edges.run("no NODE", wrong + "feed(2, " + WRONG + ") = false; feed(2, 3) = false; feed(3, 3) = false");
        edges.run("a refused one changes nothing", wrong + """
            feed(2, 3) = false; feed(0, 1) = false; feed(1, 2) = false
            count([6 7]) = 1 1; node(2, [2 6]) = 2 1; node([0 1], 6) = 0; node([0 1], 2) = -1 0
            """);
        edges.run("the one that it has", wrong + """
            feed(2, 2) = true; node(2, 2) = 2; feed(2, 1) = true; feed(2, 1) = true; node(2, 2) = 1; count(7) = 1
            """);
    }

    private static void output(Edges edges) {
        edges.sentence(6, "An OUTPUT: how many there are; NONE: others, it is one, 12 there are.");
        edges.run("the 12th and the 13th", """
            14 * input(); output([0..11]) = [1..12]; output([12 13]) = -1; count([4 7]) = 12 12; node([11 12], 6) = 1 0
            """);
        edges.run("it is one", """
            2 * input(); output(1) = 1; output(1) = -1; output(0) = 2; output([0 1]) = -1; count(4) = 2
            """);
        edges.run("it is one, 12 there are", "13 * input(); output([1..12]); output([1 12 0]) = -1; count(4) = 12");
        edges.run("no NODE", "input(); register(); output(" + WRONG + ") = -1; output(2) = -1; count([4 7]) = 0 1");
        edges.run("no NODE, 40 there are", "40 * input(); output(" + WRONG + ") = -1; output([39 0]) = 1 2; "
                + "count(4) = 2");
        edges.run("a refused one changes nothing", """
            2 * input(); output(1); map() = 0; output([1 2 -1]) = -1; count([4 6 7]) = 1 1 1; output(0) = 2
            count(6) = 0
            """);
        edges.sentence(6, "OUTPUTS: 12 at most, NODES, as told.");
        edges.run("an INPUT, a GATE and a REGISTER", """
            input(); gate(NOT, 0, 0, 0); register(); output([2 1 0]) = 1 2 3; count([4 7]) = 3 3
            """);
        edges.run("12 of 40, the last ones", "40 * register(); output([28..39]) = [1..12]; output(27) = -1");
    }

    private static void roots(Edges edges) {
        edges.sentence(30, "ROOTS: NODES that are an OUTPUT or the FEED of a REGISTER.");
        edges.run("none", "3 * input(); gate(AND, 0, 1, 0); count(7) = 0; node([0..3], 6) = 0");
        edges.run("an OUTPUT and the FEED of two REGISTERS is one ROOT", """
            input(); 2 * register(); count(7) = 2; output(0); count(7) = 3; feed([1 2], 0); count(7) = 1
            node([0..2], 6) = 1 0 0; feed(1, 2); count(7) = 2; node([0..2], 6) = 1 0 1
            """);
        edges.run("40 of 40", "40 * register(); count(7) = 40; feed([0..39], 39); count(7) = 1; node([0 39], 6) = 0 1");
    }

    private static void inputs(Edges edges) {
        edges.sentence(7, "K: 3 to 6 (at first 4).");
        edges.run("at first", "count(5) = 4; inputs(4) = 4");
        edges.run("the least and the greatest", """
            inputs([2 1 0 -1 -2 MIN 7 8 64 MAX]) = -1; count(5) = 4
            inputs([3 4 5 6 3 6]) = 4 3 4 5 6 3; count(5) = 6; inputs([2 7]) = -1; count(5) = 6
            """);
        edges.sentence(7, "K: which was; NONE: others. (The same one: it stays MAPPED.)");
        edges.run("the same one, for each K", """
            map(); inputs(4) = 4; count(6) = 1; inputs(3) = 4; count(6) = 0; inputs(3) = 3; count(6) = 0
            map(); inputs(3) = 3; count(6) = 1; inputs(6) = 3; count(6) = 0; map(); inputs(6) = 6; count(6) = 1
            inputs(5) = 6; count(6) = 0; map(); inputs(5) = 5; count(6) = 1
            """);
        edges.run("another one and back", "map(); inputs(5) = 4; inputs(4) = 5; count(6) = 0; mapped(0) = -1");
        edges.run("a refused one changes nothing", """
            3 * input(); gate(MOST, 0, 1, 2); output(3); map() = 1; inputs([2 7 MIN MAX]) = -1
            count([5 6]) = 4 1; chosen(3) = {0 1 2}; mapped([0..5]) = 1 1 0 0 1 0
            """);
    }

    private static void calls(Edges edges) {
        edges.sentence(1, "An object is used for at most 512 calls after it has been made");
        edges.run("the 511th and the 512th", """
            register() = 0; gate(NOT, 0, 0, 0) = 1; feed(0, 1) = true; 507 * clock(1) = 1; is(0) = 1; map() = 1
            """);
        edges.run("512 that are refused, but the last", "511 * gate(NOT, 0, 0, 0) = -1; input() = 0");
        edges.sentence(1, "nothing about an object after its 512th call");
        edges.run("40 NODES and the dearest calls, up to the 512th", """
            inputs(6); 6 * input(); gate(MOST, 0, 1, 2); gate(MOST, 3, 4, 5); gate(XOR, [0..5], [6 7], 0) = [8..19]
            gate(MOST, [6 8], [12 13], [16..19]) = [20..35]; gate(PICK, [20 24 28 32], 21, 9) = [36..39]
            output([28..39]) = [1..12]; map(); 228 * again([0 5]); is(39) = 0; comes(39) = 0
            """);
    }
}
