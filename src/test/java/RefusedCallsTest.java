import java.util.ArrayList;
import java.util.List;

/**
 * Calls that are refused, and calls that only ask: what the calls behind them answer is the same as if they had not
 * been made ("Nothing is promised beyond the answers and state changes described above"). Each is made in each of
 * some states on an object of its own, and all that can be asked behind it is held against an object without it.
 */
public final class RefusedCallsTest {
    private static final String WRONG = Script.WRONG;

    /** Three INPUTS, a REGISTER and GATES with a CHOSEN that AGAIN changes, a PAIR, a packed REGISTER. */
    private static final String SMALL = """
        inputs(3); 3 * input(); register(); gate(AND, 0, 2, 0); gate(OR, 1, 3, 0); gate(XOR, 4, 5, 0)
        gate(NOT, 4, 0, 0); gate(OR, 0, 2, 0); feed(3, 7); output([6 8]); set(1, true); clock(1)
        """;

    /** 40 NODES, 12 OUTPUTS. */
    private static final String FULL = """
        5 * input(); 4 * register(); gate(MOST, [0..4], [5 6 7], 8); gate(XOR, [9..23], 4, 0); gate(PICK, 38, 20, 1)
        feed([5 6 7 8], 30); output([28..39]); set([1 3], true); clock(3)
        """;

    /** All that can be asked of up to nine NODES, then changes, and what they come to. */
    private static final String QUESTIONS_OF_SMALL = """
        count([0..7]); node([0..8], [0..7]); near([4..8], [-1..3]); cone([4..8]); kept([4..8], [0..4]); depth()
        isCut([4..8], [{0 2} {1 3} {4 5}]); chosen([4..8]); table([4..8], [0..5]); holds([0..8]); mapped([0..5])
        cell([0..4], [0..4]); clusters([1 8], 6); cluster(2, 6, [0..4]); cross([1 2], 6); is([0..8]); comes([0..8])
        differs([0..8], [0 1]); slow([0..3]); again(1); chosen([4..8]); mapped([0..5]); cluster(2, 6, [0..4])
        clock(1); is([0..8]); set(1, false); map(); chosen([4..8]); inputs(4); map(); mapped([0..5])
        output(5); input(); register(); gate(AND, 0, 4, 0); count([0..7]); map(); chosen([4..8]); mapped([0..5])
        """;

    private static final String QUESTIONS_OF_FULL = """
        count([0..7]); node([0..39], [2 5]); near([9 24 39], [-1..4]); kept([24 39], [0..8]); depth(); chosen([9..39])
        table([30 39], [0..5]); holds([0 9 39]); mapped([0..5]); cell([0 10], [0..4]); clusters(8, 16); cross(8, 16)
        cluster(8, 16, [0 10]); is([0..39]); comes([30..39]); differs([30..39], 1); slow([0..3])
        again(1); mapped([0..5]); clock(1); is([0..8]); set(1, false); input(); output(0); map(); mapped([0..5])
        inputs(3); map(); mapped([0..5])
        """;

    /** Refused in each state: no such KIND, NODE, REGISTER, K, SLACK, number of CLOCKS. */
    private static final String[] ALWAYS_REFUSED = {
        "gate([MIN -1 7 MAX], 0, 0, 0) = -1", "gate(NOT, " + WRONG + ", 0, 0) = -1",
        "gate(AND, 0, " + WRONG + ", 0) = -1", "gate(PICK, 0, 0, " + WRONG + ") = -1",
        "feed(" + WRONG + ", 0) = false", "feed(3, " + WRONG + ") = false", "feed(0, 0) = false", "feed(4, 4) = false",
        "output(" + WRONG + ") = -1", "inputs([MIN -1 0 2 7 MAX]) = -1", "again([MIN -1 6 MAX]) = -1",
        "set(" + WRONG + ", [true false]) = -1", "clock([MIN -1 0 65 MAX]) = -1",
        "node(" + WRONG + ", 0) = -1", "node(0, [-1 8]) = -1", "near(" + WRONG + ", -1) = -1",
        "cone(" + WRONG + ") = -1", "kept(" + WRONG + ", 0) = 0", "kept(4, [-1 8]) = 0",
        "isCut(" + WRONG + ", 0) = false", "isCut(4, -1) = false", "chosen(" + WRONG + ") = 0",
        "table(" + WRONG + ", 0) = -1", "table(4, [-1 6]) = -1", "holds(" + WRONG + ") = throws",
        "mapped([-1 6]) = -1", "cell(" + WRONG + ", 0) = -2", "cell(0, [-1 5]) = -2", "clusters([0 9], 6) = -1",
        "clusters(1, [5 17]) = -1", "cluster([0 9], 6, 0) = -1", "cluster(1, [5 17], 0) = -1",
        "cluster(8, 16, " + WRONG + ") = -1", "cross([0 9], 6) = -1", "cross(1, [5 17]) = -1", "is(" + WRONG + ") = -1",
        "comes(" + WRONG + ") = -1", "differs(" + WRONG + ", 0) = -1", "differs(0, " + WRONG + ") = -1",
        "slow([MIN -1 40 MAX]) = -1", "count([-1 8]) = -1"};

    /** Refused in the small one: the next number, a NODE of another sort, an OUTPUT that is one. */
    private static final String[] SMALL_REFUSED = {
        "gate(AND, 0, 9, 0) = -1", "feed(3, 9) = false", "feed(8, 0) = false", "output([6 8 9]) = -1",
        "set([3 4 9], true) = -1", "node(9, [0..7]) = -1", "near([3 9], 0) = -1", "near(6, [-2 4 MAX]) = -1",
        "kept(4, 7) = 0", "chosen([0 3 9]) = 0", "holds([0 3 9]) = throws", "is(9) = -1", "comes(9) = -1",
        "differs(6, [3 4 9]) = -1"};

    /** Refused in the full one: 40 NODES, 12 OUTPUTS there are. */
    private static final String[] FULL_REFUSED = {
        "input() = -1", "register() = -1", "gate([0..6], 0, 0, 0) = -1", "output([0..39]) = -1"};

    private static final String[] REFUSED_IF_NOT_MAPPED = {
        "again([0..5]) = -1", "chosen([0..9]) = 0", "table([0..8], [0..5]) = -1", "holds([0..9]) = throws",
        "mapped([0..5]) = -1", "cell([0..3], [0..4]) = -2", "clusters([1 8], [6 16]) = -1",
        "cluster([1 8], 6, [0..3]) = -1", "cross([1 8], [6 16]) = -1", "comes([0..8]) = -1", "slow([0..3]) = -1"};

    private static final String[] ONLY_ASKED = {
        "node([0..8], [0..7])", "near([4..8], [-1..3])", "cone([4..8])", "kept([4..8], [0..8])", "isCut([4..8], {0 2})",
        "depth()", "chosen([4..8])", "table([4..8], [0..5])", "holds([4..8])", "mapped([0..5])", "cell([0..3], [0..4])",
        "clusters([1..8], [6 16])", "cluster([1 8], 6, [0..3])", "cross([1..8], 6)", "is([0..8])", "comes([0..8])",
        "differs([0..8], [0..2])", "slow([0..4])", "count([0..7])"};

    private static final Checks CHECKS = new Checks();

    public static void main(String[] args) {
        String[][] ofSmall = {ALWAYS_REFUSED, SMALL_REFUSED, ONLY_ASKED};
        state("the small one, not MAPPED", SMALL, QUESTIONS_OF_SMALL, ofSmall);
        state("the small one, not MAPPED", SMALL, QUESTIONS_OF_SMALL, REFUSED_IF_NOT_MAPPED);
        state("the small one, MAPPED", SMALL + "map()\n", QUESTIONS_OF_SMALL, ofSmall);
        state("the small one, chosen again", SMALL + "map(); again(1)\n", QUESTIONS_OF_SMALL, ofSmall);
        state("the small one, clusters asked", SMALL + "map(); cluster(2, 6, 0)\n", QUESTIONS_OF_SMALL, ofSmall);
        String[][] ofFull = {ALWAYS_REFUSED, FULL_REFUSED};
        state("the full one, not MAPPED", FULL, QUESTIONS_OF_FULL, ofFull);
        state("the full one, not MAPPED", FULL, QUESTIONS_OF_FULL, REFUSED_IF_NOT_MAPPED);
        state("the full one, MAPPED", FULL + "map()\n", QUESTIONS_OF_FULL, ofFull);
        state("the full one, chosen again", FULL + "map(); again(5)\n", QUESTIONS_OF_FULL, ofFull);
        state("nothing", "", QUESTIONS_OF_SMALL, ALWAYS_REFUSED, REFUSED_IF_NOT_MAPPED);
        state("nothing, MAPPED", "map()\n", QUESTIONS_OF_SMALL, ALWAYS_REFUSED);
        CHECKS.end();
    }

    private static void state(String name, String build, String questions, String[]... refused) {
        List<String> without = Script.answers(build + questions);
        for (String[] calls : refused) {
            for (String call : calls) {
                compare(name + ", " + call, build + call + "\n", build, questions, without);
            }
        }
    }

    /** The call's own answers, where they are told, and the answers to all that follows. */
    private static void compare(String name, String with, String build, String questions, List<String> without) {
        int before = Script.answers(build).size();
        Script.run(with, (call, got, due) -> {
            if (due != null) {
                CHECKS.due(name + ": " + call + " answered " + got, got.equals(due), true);
            }
        });
        List<String> all = Script.answers(with + questions);
        List<String> behind = new ArrayList<>(all.subList(0, before));
        behind.addAll(all.subList(all.size() - without.size() + before, all.size()));
        int wrong = 0;
        for (int i = 0; i < without.size() && wrong == 0; i++) {
            if (!without.get(i).equals(behind.get(i))) {
                wrong++;
                System.out.println(name + ": " + behind.get(i) + " behind it, and without it " + without.get(i));
            }
        }
        CHECKS.due(name + ": answers behind it that are others", wrong, 0);
    }
}
