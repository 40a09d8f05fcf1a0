import java.util.ArrayList;
import java.util.Arrays;
import java.util.Comparator;
import java.util.HashMap;
import java.util.HashSet;
import java.util.List;
import java.util.Map;
import java.util.Set;
import java.util.TreeMap;
import java.util.TreeSet;

/**
 * The document's terms once more, word by word and by the slowest means (all sets of NODES are tried as cuts), so that
 * random runs have something to be held against. It shares no code and no method with the program.
 */
final class Reference {
    private static final int NONE = -1;
    private static final int MOST_TO_TRY = 14;

    private record Node(char type, int kind, List<Integer> sources) { }

    private final List<Node> nodes = new ArrayList<>();
    private final Map<Integer, Integer> feeds = new TreeMap<>();
    private final Map<Integer, Boolean> leafOn = new TreeMap<>();
    private final List<Integer> outputs = new ArrayList<>();
    private final Map<Integer, TreeSet<Integer>> chosen = new TreeMap<>();
    private int k = 4;
    private boolean mapped = false;
    private final Map<Integer, TreeSet<Integer>> belows = new HashMap<>();
    private final Map<String, List<TreeSet<Integer>>> leanCuts = new HashMap<>();
    private final Map<String, Integer> levels = new HashMap<>();
    private final Map<String, TreeSet<Integer>> nears = new HashMap<>();
    private final Map<String, List<TreeSet<Integer>>> keeps = new HashMap<>();

    private static long bits(Iterable<Integer> set) {
        long b = 0;
        for (int n : set) {
            b |= 1L << n;
        }
        return b;
    }

    private boolean exists(int n) {
        return n >= 0 && n < nodes.size();
    }

    private boolean isType(int n, char type) {
        return exists(n) && nodes.get(n).type() == type;
    }

    private int tell(char type, int kind, List<Integer> sources) {
        nodes.add(new Node(type, kind, sources));
        mapped = false;
        return nodes.size() - 1;
    }

    int input() {
        if (nodes.size() == 40) {
            return NONE;
        }
        leafOn.put(nodes.size(), false);
        return tell('I', NONE, List.of());
    }

    int gate(int kind, int a, int b, int c) {
        if (nodes.size() == 40 || kind < 0 || kind > 6) {
            return NONE;
        }
        List<Integer> sources = kind == 0 ? List.of(a) : kind <= 4 ? List.of(a, b) : List.of(a, b, c);
        for (int s : sources) {
            if (!exists(s)) {
                return NONE;
            }
        }
        return tell('G', kind, sources);
    }

    int register() {
        if (nodes.size() == 40) {
            return NONE;
        }
        leafOn.put(nodes.size(), false);
        feeds.put(nodes.size(), nodes.size());
        return tell('R', NONE, List.of());
    }

    boolean feed(int register, int node) {
        if (!isType(register, 'R') || !exists(node)) {
            return false;
        }
        feeds.put(register, node);
        mapped = false;
        return true;
    }

    int output(int node) {
        if (!exists(node) || outputs.contains(node) || outputs.size() == 12) {
            return NONE;
        }
        outputs.add(node);
        mapped = false;
        return outputs.size();
    }

    int inputs(int newK) {
        if (newK < 3 || newK > 6) {
            return NONE;
        }
        int was = k;
        k = newK;
        mapped = mapped && was == newK;
        return was;
    }

    // ---- cuts

    private TreeSet<Integer> below(int n) {
        if (!belows.containsKey(n)) {
            TreeSet<Integer> all = new TreeSet<>();
            for (int s : nodes.get(n).sources()) {
                all.add(s);
                all.addAll(below(s));
            }
            belows.put(n, all);
        }
        return belows.get(n);
    }

    private boolean eachWayIsCut(int gate, TreeSet<Integer> cut) {
        for (int n : coneOf(gate, cut)) {
            for (int s : nodes.get(n).sources()) {
                if (!cut.contains(s) && nodes.get(s).type() != 'G') {
                    return false;
                }
            }
        }
        return true;
    }

    private boolean cuts(int gate, TreeSet<Integer> set) {
        return set.size() <= k && below(gate).containsAll(set) && eachWayIsCut(gate, set);
    }

    private void coneInto(int node, TreeSet<Integer> cut, TreeSet<Integer> cone) {
        if (nodes.get(node).type() == 'G' && !cut.contains(node) && cone.add(node)) {
            for (int s : nodes.get(node).sources()) {
                coneInto(s, cut, cone);
            }
        }
    }

    private TreeSet<Integer> coneOf(int gate, TreeSet<Integer> cut) {
        TreeSet<Integer> cone = new TreeSet<>();
        coneInto(gate, cut, cone);
        return cone;
    }

    /** All cuts; of a GATE with much below it those alone that have no NODE to spare, as no other one is a NEAR CUT. */
    private List<TreeSet<Integer>> allCuts(int gate) {
        List<Integer> below = new ArrayList<>(below(gate));
        if (below.size() > MOST_TO_TRY) {
            return leanCuts(gate);
        }
        List<TreeSet<Integer>> found = new ArrayList<>();
        gather(gate, below, 0, new TreeSet<>(), found);
        return found;
    }

    private List<TreeSet<Integer>> leanCuts(int gate) {
        String key = k + ":" + gate;
        if (!leanCuts.containsKey(key)) {
            Set<TreeSet<Integer>> sums = new HashSet<>();
            sums.add(new TreeSet<>());
            for (int s : new TreeSet<>(nodes.get(gate).sources())) {
                List<TreeSet<Integer>> sets = new ArrayList<>(List.of(new TreeSet<>(List.of(s))));
                if (nodes.get(s).type() == 'G') {
                    sets.addAll(leanCuts(s));
                }
                sums = together(sums, sets);
            }
            List<TreeSet<Integer>> lean = new ArrayList<>();
            for (TreeSet<Integer> cut : sums) {
                if (cut.size() <= k && !hasToSpare(gate, cut)) {
                    lean.add(cut);
                }
            }
            leanCuts.put(key, lean);
        }
        return leanCuts.get(key);
    }

    private boolean hasToSpare(int gate, TreeSet<Integer> cut) {
        for (int n : cut) {
            TreeSet<Integer> less = new TreeSet<>(cut);
            less.remove(n);
            if (eachWayIsCut(gate, less)) {
                return true;
            }
        }
        return false;
    }

    private Set<TreeSet<Integer>> together(Set<TreeSet<Integer>> xs, List<TreeSet<Integer>> ys) {
        Set<TreeSet<Integer>> all = new HashSet<>();
        for (TreeSet<Integer> x : xs) {
            for (TreeSet<Integer> y : ys) {
                TreeSet<Integer> both = new TreeSet<>(x);
                both.addAll(y);
                if (both.size() <= k) {
                    all.add(both);
                }
            }
        }
        return all;
    }

    private void gather(int gate, List<Integer> below, int at, TreeSet<Integer> set, List<TreeSet<Integer>> found) {
        if (!set.isEmpty() && eachWayIsCut(gate, set)) {
            found.add(new TreeSet<>(set));
        }
        for (int i = at; i < below.size() && set.size() < k; i++) {
            set.add(below.get(i));
            gather(gate, below, i + 1, set, found);
            set.remove(below.get(i));
        }
    }

    private int levelBy(TreeSet<Integer> cut) {
        int most = 0;
        for (int n : cut) {
            most = Math.max(most, level(n));
        }
        return most + 1;
    }

    private int level(int n) {
        if (nodes.get(n).type() != 'G') {
            return 0;
        }
        String key = k + ":" + n;
        if (!levels.containsKey(key)) {
            int least = Integer.MAX_VALUE;
            List<TreeSet<Integer>> all = allCuts(n);
            for (TreeSet<Integer> cut : all) {
                least = Math.min(least, levelBy(cut));
            }
            levels.put(key, least);
            TreeSet<Integer> best = null;
            for (TreeSet<Integer> cut : all) {
                if (levelBy(cut) == least && (best == null || cut.size() < best.size()
                        || cut.size() == best.size() && coneOf(n, cut).size() < coneOf(n, best).size())) {
                    best = cut;
                }
            }
            nears.put(key, best);
        }
        return levels.get(key);
    }

    private TreeSet<Integer> nearCut(int gate) {
        level(gate);
        return nears.get(k + ":" + gate);
    }

    private Comparator<TreeSet<Integer>> row() {
        return (x, y) -> {
            if (levelBy(x) != levelBy(y)) {
                return Integer.compare(levelBy(x), levelBy(y));
            }
            if (x.size() != y.size()) {
                return Integer.compare(x.size(), y.size());
            }
            List<Integer> a = new ArrayList<>(x);
            List<Integer> b = new ArrayList<>(y);
            for (int i = 0; i < a.size(); i++) {
                if (!a.get(i).equals(b.get(i))) {
                    return a.get(i).compareTo(b.get(i));
                }
            }
            return 0;
        };
    }

    private List<TreeSet<Integer>> keptCuts(int gate) {
        String key = k + ":" + gate;
        if (!keeps.containsKey(key)) {
            Set<TreeSet<Integer>> sums = new HashSet<>();
            sums.add(new TreeSet<>());
            for (int s : nodes.get(gate).sources()) {
                List<TreeSet<Integer>> sets = new ArrayList<>();
                sets.add(new TreeSet<>(List.of(s)));
                if (nodes.get(s).type() == 'G') {
                    sets.addAll(keptCuts(s));
                }
                sums = together(sums, sets);
            }
            sums.add(nearCut(gate));
            TreeSet<TreeSet<Integer>> each = new TreeSet<>(row());
            each.addAll(sums);
            List<TreeSet<Integer>> kept = new ArrayList<>();
            for (TreeSet<Integer> x : each) {
                boolean spare = false;
                for (TreeSet<Integer> y : each) {
                    spare |= !x.equals(y) && x.containsAll(y);
                }
                if (!spare && kept.size() < 8) {
                    kept.add(x);
                }
            }
            keeps.put(key, kept);
        }
        return keeps.get(key);
    }

    // ---- tables

    private TreeSet<Integer> roots() {
        TreeSet<Integer> roots = new TreeSet<>(outputs);
        roots.addAll(feeds.values());
        return roots;
    }

    private TreeSet<Integer> tables() {
        TreeSet<Integer> tables = new TreeSet<>();
        ArrayList<Integer> todo = new ArrayList<>(roots());
        while (!todo.isEmpty()) {
            int n = todo.remove(todo.size() - 1);
            if (nodes.get(n).type() == 'G' && tables.add(n)) {
                todo.addAll(chosen.get(n));
            }
        }
        return tables;
    }

    private int arrivalBy(TreeSet<Integer> cut) {
        int most = 0;
        for (int n : cut) {
            most = Math.max(most, arrival(n));
        }
        return most + 1;
    }

    private int arrival(int last) {
        int[] arrival = new int[last + 1];
        for (int n = 0; n <= last; n++) {
            if (nodes.get(n).type() == 'G') {
                for (int c : chosen.get(n)) {
                    arrival[n] = Math.max(arrival[n], 1 + arrival[c]);
                }
            }
        }
        return arrival[last];
    }

    int map() {
        chosen.clear();
        for (int n = 0; n < nodes.size(); n++) {
            if (nodes.get(n).type() == 'G') {
                chosen.put(n, nearCut(n));
            }
        }
        mapped = true;
        return tables().size();
    }

    private void dueInto(int node, int due, Map<Integer, Integer> dues) {
        if (dues.containsKey(node) && dues.get(node) <= due) {
            return;
        }
        dues.put(node, due);
        if (nodes.get(node).type() == 'G') {
            for (int n : chosen.get(node)) {
                dueInto(n, due - 1, dues);
            }
        }
    }

    int again(int slack) {
        if (slack < 0 || slack > 5 || !mapped) {
            return NONE;
        }
        int before = tables().size();
        Map<Integer, Integer> due = new TreeMap<>();
        for (int r : roots()) {
            dueInto(r, depth() + slack, due);
        }
        for (int t = 0; t < nodes.size(); t++) {
            if (!tables().contains(t)) {
                continue;
            }
            TreeSet<Integer> mine = chosen.get(t);
            List<TreeSet<Integer>> able = new ArrayList<>();
            for (TreeSet<Integer> cut : keptCuts(t)) {
                if (arrivalBy(cut) <= due.get(t) && !cut.equals(mine)) {
                    able.add(cut);
                }
            }
            able.add(mine);
            int table = t;
            Map<TreeSet<Integer>, Integer> many = new HashMap<>();
            for (TreeSet<Integer> cut : able) {
                chosen.put(table, cut);
                many.put(cut, tables().size());
            }
            Comparator<TreeSet<Integer>> better = Comparator.comparing(many::get);
            better = better.thenComparing(this::arrivalBy);
            better = better.thenComparing(cut -> cut.equals(mine) ? 0 : 1);
            better = better.thenComparing(row());
            able.sort(better);
            chosen.put(table, able.get(0));
        }
        return before - tables().size();
    }

    private boolean valueOf(int node, Map<Integer, Boolean> told) {
        if (told.containsKey(node)) {
            return told.get(node);
        }
        Node n = nodes.get(node);
        boolean[] s = new boolean[3];
        for (int i = 0; i < n.sources().size(); i++) {
            s[i] = valueOf(n.sources().get(i), told);
        }
        boolean value = switch (n.kind()) {
            case 0 -> !s[0];
            case 1 -> s[0] && s[1];
            case 2 -> s[0] || s[1];
            case 3 -> s[0] != s[1];
            case 4 -> !(s[0] && s[1]);
            case 5 -> s[0] ? s[1] : s[2];
            default -> (s[0] ? 1 : 0) + (s[1] ? 1 : 0) + (s[2] ? 1 : 0) >= 2;
        };
        told.put(node, value);
        return value;
    }

    private long held(int gate) {
        List<Integer> cut = new ArrayList<>(chosen.get(gate));
        long bits = 0;
        for (int j = 0; j < 1 << cut.size(); j++) {
            Map<Integer, Boolean> told = new HashMap<>();
            for (int i = 0; i < cut.size(); i++) {
                told.put(cut.get(i), (j >> i & 1) != 0);
            }
            if (valueOf(gate, told)) {
                bits |= 1L << j;
            }
        }
        return bits;
    }

    private int caresOf(int gate) {
        long held = held(gate);
        int size = chosen.get(gate).size();
        int cares = 0;
        for (int j = 0; j < 1 << size; j++) {
            for (int i = 0; i < size; i++) {
                if ((held >> j & 1) != (held >> (j ^ 1 << i) & 1)) {
                    cares |= 1 << i;
                }
            }
        }
        return cares;
    }

    private int usesOf(int node) {
        int uses = 0;
        for (int t : tables()) {
            uses += chosen.get(t).contains(node) ? 1 : 0;
        }
        return uses;
    }

    // ---- pairs, cells, clusters

    private boolean arePair(int x, int y) {
        TreeSet<Integer> both = new TreeSet<>(chosen.get(x));
        both.addAll(chosen.get(y));
        return !chosen.get(x).contains(y) && !chosen.get(y).contains(x) && both.size() <= k - 1;
    }

    private Map<Integer, Integer> paired() {
        Map<Integer, Integer> paired = new TreeMap<>();
        for (int x : tables()) {
            for (int y : tables().tailSet(x, false)) {
                if (!paired.containsKey(x) && !paired.containsKey(y) && arePair(x, y)) {
                    paired.put(x, y);
                    paired.put(y, x);
                }
            }
        }
        return paired;
    }

    private int mostPairs() {
        List<Integer> t = new ArrayList<>(tables());
        if (t.size() > 14) {
            return NONE;
        }
        int[] most = new int[1 << t.size()];
        for (int set = 1; set < most.length; set++) {
            int low = Integer.numberOfTrailingZeros(set);
            most[set] = most[set & set - 1];
            for (int other = low + 1; other < t.size(); other++) {
                if ((set >> other & 1) != 0 && arePair(t.get(low), t.get(other))) {
                    most[set] = Math.max(most[set], 1 + most[set & ~(1 << low) & ~(1 << other)]);
                }
            }
        }
        return most[most.length - 1];
    }

    private static final class Cell {
        private final TreeSet<Integer> tables = new TreeSet<>();
        private final TreeSet<Integer> registers = new TreeSet<>();
        private final TreeSet<Integer> in = new TreeSet<>();

        private TreeSet<Integer> out() {
            TreeSet<Integer> out = new TreeSet<>(tables);
            out.addAll(registers);
            return out;
        }

        private TreeSet<Integer> nets() {
            TreeSet<Integer> nets = new TreeSet<>(in);
            nets.addAll(out());
            return nets;
        }
    }

    private boolean isPacked(int register) {
        int fed = feeds.get(register);
        int feedsOfIt = 0;
        for (int f : feeds.values()) {
            feedsOfIt += f == fed ? 1 : 0;
        }
        return tables().contains(fed) && !outputs.contains(fed) && feedsOfIt == 1 && usesOf(fed) == 0;
    }

    private List<Cell> cells() {
        List<Cell> cells = new ArrayList<>();
        Map<Integer, Integer> paired = paired();
        for (int t : tables()) {
            if (paired.containsKey(t) && paired.get(t) < t) {
                continue;
            }
            Cell cell = new Cell();
            cell.tables.add(t);
            if (paired.containsKey(t)) {
                cell.tables.add(paired.get(t));
            }
            for (int x : cell.tables) {
                cell.in.addAll(chosen.get(x));
                for (int r : feeds.keySet()) {
                    if (feeds.get(r) == x && isPacked(r)) {
                        cell.registers.add(r);
                    }
                }
            }
            cells.add(cell);
        }
        for (int r : feeds.keySet()) {
            if (!isPacked(r)) {
                Cell cell = new Cell();
                cell.registers.add(r);
                cell.in.add(feeds.get(r));
                cells.add(cell);
            }
        }
        return cells;
    }

    private static int outside(List<Cell> cells) {
        TreeSet<Integer> in = new TreeSet<>();
        for (Cell c : cells) {
            in.addAll(c.in);
        }
        for (Cell c : cells) {
            in.removeAll(c.out());
        }
        return in.size();
    }

    private static int shared(Cell cell, List<Cell> cluster) {
        TreeSet<Integer> nets = new TreeSet<>();
        for (Cell c : cluster) {
            nets.addAll(c.nets());
        }
        nets.retainAll(cell.nets());
        return nets.size();
    }

    private List<List<Cell>> fill(List<Cell> cells, int most, int nets) {
        List<Cell> left = new ArrayList<>(cells);
        List<List<Cell>> clusters = new ArrayList<>();
        while (!left.isEmpty()) {
            Cell first = left.get(0);
            for (Cell c : left) {
                first = c.in.size() > first.in.size() ? c : first;
            }
            left.remove(first);
            List<Cell> cluster = new ArrayList<>(List.of(first));
            clusters.add(cluster);
            while (cluster.size() < most) {
                Cell best = null;
                for (Cell c : left) {
                    List<Cell> with = new ArrayList<>(cluster);
                    with.add(c);
                    if (outside(with) <= nets && (best == null || shared(c, cluster) > shared(best, cluster))) {
                        best = c;
                    }
                }
                if (best == null) {
                    break;
                }
                left.remove(best);
                cluster.add(best);
            }
        }
        return clusters;
    }

    private boolean canCluster(int most, int nets) {
        return mapped && most >= 1 && most <= 8 && nets >= 6 && nets <= 16;
    }

    int clusters(int most, int nets) {
        return canCluster(most, nets) ? fill(cells(), most, nets).size() : NONE;
    }

    int cluster(int most, int nets, int cell) {
        if (!canCluster(most, nets)) {
            return NONE;
        }
        List<Cell> cells = cells();
        List<List<Cell>> clusters = fill(cells, most, nets);
        for (int i = 0; i < clusters.size(); i++) {
            if (cell >= 0 && cell < cells.size() && clusters.get(i).contains(cells.get(cell))) {
                return i;
            }
        }
        return NONE;
    }

    int cross(int most, int nets) {
        if (!canCluster(most, nets)) {
            return NONE;
        }
        TreeSet<Integer> crossing = new TreeSet<>();
        List<List<Cell>> clusters = fill(cells(), most, nets);
        for (List<Cell> from : clusters) {
            for (List<Cell> to : clusters) {
                for (Cell f : from) {
                    for (Cell t : to) {
                        TreeSet<Integer> both = f.out();
                        both.retainAll(t.in);
                        if (from != to) {
                            crossing.addAll(both);
                        }
                    }
                }
            }
        }
        return crossing.size();
    }

    // ---- signals

    private boolean now(int node) {
        return valueOf(node, new HashMap<>(leafOn));
    }

    int set(int input, boolean on) {
        if (!isType(input, 'I')) {
            return NONE;
        }
        return leafOn.put(input, on) ? 1 : 0;
    }

    int clock(int times) {
        if (times < 1 || times > 64) {
            return NONE;
        }
        int changed = 0;
        for (int i = 0; i < times; i++) {
            Map<Integer, Boolean> next = new TreeMap<>();
            for (int r : feeds.keySet()) {
                next.put(r, now(feeds.get(r)));
            }
            changed = 0;
            for (int r : feeds.keySet()) {
                changed += next.get(r).equals(leafOn.get(r)) ? 0 : 1;
            }
            leafOn.putAll(next);
        }
        return changed;
    }

    int is(int node) {
        return exists(node) ? now(node) ? 1 : 0 : NONE;
    }

    private boolean byTables(int node, Map<Integer, Boolean> told) {
        if (!told.containsKey(node)) {
            int j = 0;
            int place = 0;
            for (int n : chosen.get(node)) {
                j |= (byTables(n, told) ? 1 : 0) << place++;
            }
            told.put(node, (held(node) >> j & 1) != 0);
        }
        return told.get(node);
    }

    int comes(int node) {
        return exists(node) && mapped ? byTables(node, new HashMap<>(leafOn)) ? 1 : 0 : NONE;
    }

    int differs(int node, int input) {
        if (!exists(node) || !isType(input, 'I')) {
            return NONE;
        }
        boolean was = now(node);
        leafOn.put(input, !leafOn.get(input));
        boolean other = now(node);
        leafOn.put(input, !leafOn.get(input));
        return was == other ? 0 : 1;
    }

    // ---- questions

    int node(int node, int what) {
        if (!exists(node)) {
            return NONE;
        }
        Node n = nodes.get(node);
        return switch (what) {
            case 0 -> "IGR".indexOf(n.type());
            case 1 -> n.kind();
            case 2, 3, 4 -> n.type() == 'R' && what == 2 ? feeds.get(node)
                    : what - 2 < n.sources().size() ? n.sources().get(what - 2) : NONE;
            case 5 -> level(node);
            case 6 -> roots().contains(node) ? 1 : 0;
            case 7 -> below(node).size();
            default -> NONE;
        };
    }

    int near(int gate, int i) {
        if (!isType(gate, 'G')) {
            return NONE;
        }
        List<Integer> cut = new ArrayList<>(nearCut(gate));
        return i == NONE ? cut.size() : i >= 0 && i < cut.size() ? cut.get(i) : NONE;
    }

    int cone(int gate) {
        return isType(gate, 'G') ? coneOf(gate, nearCut(gate)).size() : NONE;
    }

    long kept(int gate, int c) {
        return isType(gate, 'G') && c >= 0 && c < keptCuts(gate).size() ? bits(keptCuts(gate).get(c)) : 0;
    }

    boolean isCut(int gate, long set) {
        if (!isType(gate, 'G')) {
            return false;
        }
        TreeSet<Integer> cut = new TreeSet<>();
        for (int n = 0; n < 64; n++) {
            if ((set >>> n & 1) != 0) {
                cut.add(n);
            }
        }
        return cuts(gate, cut);
    }

    int depth() {
        int most = 0;
        for (int r : roots()) {
            most = Math.max(most, level(r));
        }
        return most;
    }

    long chosen(int gate) {
        return mapped && isType(gate, 'G') ? bits(chosen.get(gate)) : 0;
    }

    int table(int gate, int what) {
        if (!mapped || !isType(gate, 'G')) {
            return NONE;
        }
        return switch (what) {
            case 0 -> tables().contains(gate) ? 1 : 0;
            case 1 -> arrival(gate);
            case 2 -> usesOf(gate);
            case 3 -> paired().getOrDefault(gate, NONE);
            case 4 -> {
                List<Cell> cells = cells();
                int found = NONE;
                for (int i = 0; i < cells.size(); i++) {
                    found = cells.get(i).tables.contains(gate) ? i : found;
                }
                yield found;
            }
            case 5 -> caresOf(gate);
            default -> NONE;
        };
    }

    /** Null stands for NoSuchElementException. */
    Long holds(int gate) {
        return mapped && isType(gate, 'G') ? (Long) held(gate) : null;
    }

    int mapped(int what) {
        if (!mapped) {
            return NONE;
        }
        return switch (what) {
            case 0 -> tables().size();
            case 1 -> roots().stream().mapToInt(this::arrival).max().orElse(0);
            case 2 -> paired().size() / 2;
            case 3 -> mostPairs();
            case 4 -> cells().size();
            case 5 -> (int) feeds.keySet().stream().filter(this::isPacked).count();
            default -> NONE;
        };
    }

    int cell(int cell, int what) {
        if (!mapped || cell < 0 || cell >= cells().size() || what < 0 || what > 4) {
            return -2;
        }
        Cell c = cells().get(cell);
        List<Integer> tables = new ArrayList<>(c.tables);
        List<Integer> registers = new ArrayList<>(c.registers);
        return switch (what) {
            case 0 -> tables.isEmpty() ? NONE : tables.get(0);
            case 1 -> tables.size() < 2 ? NONE : tables.get(1);
            case 2 -> registers.isEmpty() ? NONE : registers.get(0);
            case 3 -> registers.size() < 2 ? NONE : registers.get(1);
            default -> c.in.size();
        };
    }

    int slow(int i) {
        if (!mapped || i < 0) {
            return NONE;
        }
        List<Integer> way = new ArrayList<>();
        TreeSet<Integer> from = roots();
        while (!from.isEmpty()) {
            int latest = from.first();
            for (int n : from) {
                latest = arrival(n) > arrival(latest) ? n : latest;
            }
            way.add(latest);
            from = nodes.get(latest).type() == 'G' ? chosen.get(latest) : new TreeSet<>();
        }
        return i < way.size() ? way.get(i) : NONE;
    }

    int count(int what) {
        int[] of = new int[3];
        for (Node n : nodes) {
            of["IGR".indexOf(n.type())]++;
        }
        List<Integer> counts = Arrays.asList(nodes.size(), of[0], of[1], of[2], outputs.size(), k, mapped ? 1 : 0,
                roots().size());
        return what >= 0 && what < counts.size() ? counts.get(what) : NONE;
    }
}
