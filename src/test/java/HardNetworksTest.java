/**
 * Networks in which ways that are laid later turn earlier ones off a NODE, found by a search: there the smallest cut
 * comes out wrong, if that NODE is not free again. All cuts are held against Reference.
 */
public final class HardNetworksTest {
    /** K and how many INPUTS there are, then GATES: the KIND and three SOURCES of each. */
    private static final String[] NETWORKS = {
        "3 6, "
            + "1 0 1 0, 6 2 5 1, 1 7 7 4, 0 6 7 7, 1 5 7 9, 1 7 0 3, 1 3 1 8, 1 8 12 4, 1 8 7 10, 1 9 9 6, "
            + "0 8 11 6, 1 6 9 11, 1 8 12 8, 1 14 13 11, 1 17 18 13, 6 17 9 11, 1 14 18 8, 1 19 20 11, "
            + "0 11 10 20, 1 11 11 19, 1 15 22 25, 0 19 21 15, 1 15 25 19, 1 24 28 18, 0 26 23 20, 1 20 30 27, "
            + "0 21 29 24, 1 26 32 29, 1 25 32 22, 1 33 29 34, 1 34 35 22",
        "4 15, "
            + "6 5 7 10, 0 14 12 15, 0 16 11 13, 0 9 10 15, 6 16 9 14, 0 17 12 18, 0 17 20 15, 0 13 15 21, "
            + "6 21 17 20, 1 14 23 22, 6 17 15 24, 6 17 17 19, 6 18 24 17, 0 26 24 24, 6 20 28 23, 6 25 29 20, "
            + "6 25 23 26, 6 31 28 22, 1 24 25 25, 0 26 31 28, 6 27 33 28, 1 29 35 32",
        "5 7, "
            + "6 5 3 5, 1 1 6 3, 1 5 5 8, 1 9 7 3, 1 4 0 7, 1 7 3 6, 1 12 8 3, 1 7 2 0, 1 4 0 6, 1 11 10 2, "
            + "0 9 11 3, 0 11 5 7, 1 12 13 14, 1 9 15 6, 0 16 14 11, 1 7 12 11, 1 8 8 18, 1 18 14 22, "
            + "6 18 19 13, 0 21 22 16, 1 26 22 23, 1 26 21 21, 1 27 26 18, 1 19 28 27, 1 24 22 29, 1 28 28 21, "
            + "6 20 25 28, 1 23 33 20, 1 28 32 34, 1 24 25 31, 1 33 32 28, 1 37 27 26",
        "6 10, "
            + "6 9 5 8, 0 0 10 6, 6 9 8 10, 1 1 6 10, 1 12 8 6, 1 12 14 4, 6 4 9 11, 6 7 9 5, 6 13 10 12, "
            + "6 17 14 13, 1 8 7 7, 6 14 14 11, 0 10 10 18, 6 19 22 20, 6 23 12 15, 6 13 20 15, 6 25 18 21, "
            + "6 14 20 19, 1 21 17 17, 6 25 20 24, 6 22 22 24, 6 29 27 28, 6 21 24 31, 6 23 31 20, 6 31 23 24, "
            + "6 24 30 27, 6 27 32 30, 6 27 28 26, 6 35 30 33"
    };

    private static final Checks CHECKS = new Checks();

    public static void main(String[] args) {
        for (String network : NETWORKS) {
            compare(network.split(", "));
        }
        CHECKS.end();
    }

    private static int[] numbers(String text) {
        String[] words = text.split(" ");
        int[] numbers = new int[words.length];
        for (int i = 0; i < words.length; i++) {
            numbers[i] = Integer.parseInt(words[i]);
        }
        return numbers;
    }

    private static void compare(String[] rows) {
        Subject mapper = new Subject();
        Reference reference = new Reference();
        int[] head = numbers(rows[0]);
        mapper.change(x -> x.inputs(head[0]));
        reference.inputs(head[0]);
        for (int i = 0; i < head[1]; i++) {
            mapper.change(TableMapper::input);
            reference.input();
        }
        for (int row = 1; row < rows.length; row++) {
            int[] gate = numbers(rows[row]);
            int node = (int) mapper.change(x -> x.gate(gate[0], gate[1], gate[2], gate[3]));
            CHECKS.due("gate", node, reference.gate(gate[0], gate[1], gate[2], gate[3]));
            CHECKS.due("LEVEL of " + node, mapper.ask(x -> x.node(node, 5)), reference.node(node, 5));
            CHECKS.due("cone(" + node + ")", mapper.ask(x -> x.cone(node)), reference.cone(node));
            for (int i = TableMapper.NONE; i < 6; i++) {
                int place = i;
                CHECKS.due("near(" + node + ", " + i + ")", mapper.ask(x -> x.near(node, place)),
                        reference.near(node, i));
            }
            for (int i = 0; i < 9; i++) {
                int c = i;
                CHECKS.due("kept(" + node + ", " + c + ")", mapper.ask(x -> x.kept(node, c)), reference.kept(node, c));
            }
        }
    }
}
