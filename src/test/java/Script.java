import java.lang.reflect.InvocationTargetException;
import java.lang.reflect.Method;
import java.util.ArrayList;
import java.util.HashMap;
import java.util.List;
import java.util.Map;
import java.util.regex.Matcher;
import java.util.regex.Pattern;

/**
 * Runs of calls told as text, on a new object each, with the answers that are due. Calls stand behind one another on
 * lines or with ';' between them, '#' begins a remark.
 *
 * <pre>
 *   3 * input() = 0 1 2          three times, with an answer for each
 *   gate(AND, 0, 1, MAX) = 3     words stand for numbers (see NUMBERS)
 *   output(3)                    whatever it answers
 *   node(3, [0..2 7]) = 1 1 0 2  a list in brackets: a call for each of it
 *   is([0..3]) = 0               one answer that is due for all of them
 *   isCut(3, {0 1}) = true       a set of NODES as bits
 *   holds(0) = throws            NoSuchElementException
 *   new                          a new object from here on
 * </pre>
 */
final class Script {
    /** The document tells nothing about an object after so many calls, so no run goes beyond. */
    private static final int MOST_CALLS = 512;
    private static final Pattern CALL = Pattern.compile("(?:(\\d+) \\* )?(\\w+)\\((.*)\\)(?: = (.*))?");
    private static final Pattern PART = Pattern.compile("\\{[^}]*\\}|\\[[^\\]]*\\]|\\S+");
    private static final Pattern RANGE = Pattern.compile("(-?\\d+)\\.\\.(-?\\d+)");
    private static final Map<String, String> NUMBERS = new HashMap<>();
    private static final Map<String, Method> FACE = new HashMap<>();

    static {
        String[] kinds = {"NOT", "AND", "OR", "XOR", "NAND", "PICK", "MOST"};
        for (int kind = 0; kind < kinds.length; kind++) {
            NUMBERS.put(kinds[kind], Integer.toString(kind));
        }
        NUMBERS.put("NONE", "-1");
        NUMBERS.put("MIN", Integer.toString(Integer.MIN_VALUE));
        NUMBERS.put("MAX", Integer.toString(Integer.MAX_VALUE));
        NUMBERS.put("LMIN", Long.toString(Long.MIN_VALUE));
        NUMBERS.put("LMAX", Long.toString(Long.MAX_VALUE));
        for (Method method : TableMapper.class.getDeclaredMethods()) {
            FACE.put(method.getName(), method);
        }
    }

    /** Numbers that are no NODE in any network: far off, next to NODES, and such as a shift would take for 0 or 1. */
    static final String WRONG = "[MIN -64 -63 -2 -1 40 63 64 65 MAX]";

    /** Is told each answer. */
    interface Listener {
        /** What is due is null, if nothing was told. */
        void answered(String call, String got, String due);
    }

    private final Listener listener;
    private TableMapper mapper = new TableMapper();
    private int calls = 0;

    private Script(Listener listener) {
        this.listener = listener;
    }

    static void run(String text, Listener listener) {
        Script script = new Script(listener);
        for (String line : text.split("\n")) {
            for (String statement : line.replaceAll("#.*", "").split(";")) {
                if (!statement.isBlank()) {
                    script.step(statement.trim());
                }
            }
        }
    }

    /** All answers, in their order, with their calls. */
    static List<String> answers(String text) {
        List<String> all = new ArrayList<>();
        run(text, (call, got, due) -> all.add(call + " answered " + got));
        return all;
    }

    private void step(String statement) {
        if (statement.equals("new")) {
            mapper = new TableMapper();
            calls = 0;
            return;
        }
        Matcher parts = CALL.matcher(statement);
        if (!parts.matches() || !FACE.containsKey(parts.group(2))) {
            throw new IllegalArgumentException("no call: " + statement);
        }
        int times = parts.group(1) == null ? 1 : Integer.parseInt(parts.group(1));
        List<List<String>> each = argumentLists(parts.group(3));
        List<String> due = parts.group(4) == null ? null : listOf(parts.group(4));
        int many = times * each.size();
        if (due != null && due.size() != 1 && due.size() != many) {
            throw new IllegalArgumentException(many + " calls, " + due.size() + " answers: " + statement);
        }
        for (int i = 0; i < many; i++) {
            String wanted = due == null ? null : due.get(due.size() == 1 ? 0 : i);
            call(FACE.get(parts.group(2)), each.get(i % each.size()), wanted);
        }
    }

    private void call(Method method, List<String> arguments, String due) {
        calls++;
        if (calls > MOST_CALLS) {
            throw new IllegalArgumentException("more than " + MOST_CALLS + " calls of one object");
        }
        listener.answered(method.getName() + "(" + String.join(", ", arguments) + ")", answer(method, arguments), due);
    }

    private String answer(Method method, List<String> arguments) {
        Class<?>[] types = method.getParameterTypes();
        if (types.length != arguments.size()) {
            throw new IllegalArgumentException(method + " of " + arguments);
        }
        Object[] values = new Object[types.length];
        for (int i = 0; i < types.length; i++) {
            values[i] = valueOf(arguments.get(i), types[i]);
        }
        try {
            return method.invoke(mapper, values).toString();
        } catch (InvocationTargetException e) {
            String name = e.getCause().getClass().getName();
            return name.equals("java.util.NoSuchElementException") ? "throws" : "throws " + name;
        } catch (IllegalAccessException e) {
            throw new IllegalStateException(e);
        }
    }

    private static Object valueOf(String atom, Class<?> type) {
        if (type == boolean.class) {
            return atom.equals("true");
        }
        if (type == long.class) {
            return Long.valueOf(atom);
        }
        return Integer.valueOf(atom);
    }

    /** Each way to take one of each argument's list, the last list the fastest. */
    private static List<List<String>> argumentLists(String text) {
        List<List<String>> all = new ArrayList<>();
        all.add(List.of());
        if (text.isBlank()) {
            return all;
        }
        for (String argument : text.split(",")) {
            List<List<String>> longer = new ArrayList<>();
            for (List<String> before : all) {
                for (String atom : listOf(argument)) {
                    List<String> with = new ArrayList<>(before);
                    with.add(atom);
                    longer.add(with);
                }
            }
            all = longer;
        }
        return all;
    }

    private static List<String> listOf(String text) {
        List<String> atoms = new ArrayList<>();
        Matcher part = PART.matcher(text.trim());
        while (part.find()) {
            String word = part.group();
            Matcher range = RANGE.matcher(word);
            if (word.startsWith("[")) {
                atoms.addAll(listOf(word.substring(1, word.length() - 1)));
            } else if (word.startsWith("{")) {
                atoms.add(Long.toString(bits(listOf(word.substring(1, word.length() - 1)))));
            } else if (range.matches()) {
                for (int i = Integer.parseInt(range.group(1)); i <= Integer.parseInt(range.group(2)); i++) {
                    atoms.add(Integer.toString(i));
                }
            } else {
                atoms.add(NUMBERS.getOrDefault(word, word));
            }
        }
        return atoms;
    }

    private static long bits(List<String> nodes) {
        long bits = 0;
        for (String node : nodes) {
            bits |= 1L << Integer.parseInt(node);
        }
        return bits;
    }
}
