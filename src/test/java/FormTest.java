import java.io.IOException;
import java.lang.reflect.Field;
import java.lang.reflect.Method;
import java.lang.reflect.Modifier;
import java.nio.file.Files;
import java.nio.file.Path;
import java.util.ArrayList;
import java.util.HashSet;
import java.util.List;
import java.util.Set;
import java.util.TreeSet;
import java.util.regex.Matcher;
import java.util.regex.Pattern;

/** The public face, and what of the language's rules can be told by looking at the class and its text. */
public final class FormTest {
    private static final String[] FACE = {
        "int input()", "int gate(int,int,int,int)", "int register()", "boolean feed(int,int)", "int output(int)",
        "int inputs(int)", "int map()", "int again(int)", "int set(int,boolean)", "int clock(int)", "int node(int,int)",
        "int near(int,int)", "int cone(int)", "long kept(int,int)", "boolean isCut(int,long)", "int depth()",
        "long chosen(int)", "int table(int,int)", "long holds(int) throws java.util.NoSuchElementException",
        "int mapped(int)", "int cell(int,int)",
        "int clusters(int,int)", "int cluster(int,int,int)", "int cross(int,int)", "int is(int)", "int comes(int)",
        "int differs(int,int)", "int slow(int)", "int count(int)"};
    private static final String[] NOT_IN_THE_LANGUAGE = {
        "->", "::", "\\bvar\\b", "\\bsynchronized\\b", "\\bassert\\b", "\\bfinally\\b", "\\btry\\b", "\\bcatch\\b",
        "\\bSystem\\.(out|err|nanoTime|currentTimeMillis)", "\\bThread\\b", "\\bRandom\\b", "Exact\\(",
        "\\bdouble\\b", "\\bfloat\\b", "\\bnumberOf(Leading|Trailing)Zeros\\b", "\\bMAX_VALUE\\b"};
    private static final int MOST_LINES = 60;

    private static final Checks CHECKS = new Checks();

    public static void main(String[] args) throws IOException {
        face();
        classesInside();
        String text = Files.readString(Path.of("src/main/java/TableMapper.java"));
        String code = text.replaceAll("(?s)/\\*.*?\\*/", "").replaceAll("//[^\n]*", "");
        documentsFace(text);
        words(text, code);
        loops(code);
        objects(code);
        methodLengths(text);
        CHECKS.end();
    }

    private static void due(String what, boolean holds) {
        CHECKS.due(what, holds, true);
    }

    private static void face() {
        Set<String> open = new TreeSet<>();
        Set<String> openNames = new HashSet<>();
        List<String> closedNames = new ArrayList<>();
        for (Method method : TableMapper.class.getDeclaredMethods()) {
            if (Modifier.isPublic(method.getModifiers())) {
                open.add(signature(method));
                openNames.add(method.getName());
            } else {
                due(method + " is private", Modifier.isPrivate(method.getModifiers()));
                closedNames.add(method.getName());
            }
        }
        due("the face is " + open, open.equals(new TreeSet<>(List.of(FACE))));
        for (Class<?> inside : TableMapper.class.getDeclaredClasses()) {
            for (Method method : inside.getDeclaredMethods()) {
                closedNames.add(method.getName());
            }
        }
        for (String name : closedNames) {
            due(name + " is no name of the face", !openNames.contains(name));
        }
        due("final and public", Modifier.isFinal(TableMapper.class.getModifiers())
                && Modifier.isPublic(TableMapper.class.getModifiers()));
        due("one constructor", TableMapper.class.getDeclaredConstructors().length == 1);
        for (Field field : TableMapper.class.getDeclaredFields()) {
            boolean isPrivate = Modifier.isPrivate(field.getModifiers());
            due(field + " is closed", isPrivate || field.toString().equals("public static final int TableMapper.NONE"));
        }
        due("one open field", TableMapper.class.getFields().length == 1);
    }

    /** The document's lines of the face stand in the class as they are, with the names of the parameters too. */
    private static void documentsFace(String text) throws IOException {
        List<String> heads = new ArrayList<>();
        for (String line : Files.readAllLines(Path.of("../shared/DOC.md"))) {
            if (line.startsWith("    public ")) {
                heads.add(line.contains("=") ? line : line.replace(";", " {"));
            }
        }
        due("the document has a constant, a constructor and each call", heads.size() == FACE.length + 2);
        for (String head : heads) {
            due("as the document has it: " + head.trim(), text.contains("\n" + head + "\n"));
        }
    }

    private static String signature(Method method) {
        List<String> parameters = new ArrayList<>();
        for (Class<?> type : method.getParameterTypes()) {
            parameters.add(type.getName());
        }
        StringBuilder thrown = new StringBuilder();
        for (Class<?> type : method.getExceptionTypes()) {
            thrown.append(" throws ").append(type.getName());
        }
        return method.getReturnType().getName() + " " + method.getName() + "(" + String.join(",", parameters) + ")"
                + thrown;
    }

    private static void classesInside() {
        Class<?>[] inside = TableMapper.class.getDeclaredClasses();
        due("twelve classes at most", inside.length + 1 <= 12);
        for (Class<?> one : inside) {
            due(one + " is static and closed", Modifier.isStatic(one.getModifiers())
                    && !Modifier.isPublic(one.getModifiers()) && !Modifier.isProtected(one.getModifiers()));
            int fields = 0;
            for (Field field : one.getDeclaredFields()) {
                boolean isStatic = Modifier.isStatic(field.getModifiers());
                fields += isStatic ? 0 : 1;
                due(field + " is final, if static", !isStatic || Modifier.isFinal(field.getModifiers()));
            }
            due(one + " has twenty fields at most", fields <= 20);
            for (Method method : one.getDeclaredMethods()) {
                due(method + " has seven parameters at most", method.getParameterCount() <= 7);
            }
        }
    }

    private static void words(String text, String code) {
        for (String word : NOT_IN_THE_LANGUAGE) {
            Matcher matcher = Pattern.compile(word).matcher(code);
            due("no " + word, !matcher.find());
        }
        int imports = 0;
        for (String line : code.split("\n")) {
            imports += line.startsWith("import ") ? 1 : 0;
        }
        due("one import", imports == 1 && code.contains("import java.util.NoSuchElementException;"));
        for (char sign : text.toCharArray()) {
            if (sign > 126) {
                due("sign " + (int) sign, false);
            }
        }
    }

    /** Rule 9: a counter up to or down to a bound, or the NODES of a set, each taken off it in its turn. */
    private static void loops(String code) {
        String up = "for \\(int (\\w+) = [^;]+; \\1 <=? [^;]+; \\1\\+\\+\\) \\{";
        String down = "for \\(int (\\w+) = [^;]+; \\1 >= [^;]+; \\1--\\) \\{";
        String taken = "for \\(long (\\w+) = [^;]+; \\1 != 0( && [^;]+)?; \\1 &= \\1 - 1\\) \\{";
        int loops = 0;
        for (String line : code.split("\n")) {
            String head = line.trim();
            if (Pattern.compile("\\b(for|while|do)\\b").matcher(head).find()) {
                due("the loop's end is seen: " + head, head.matches(up) || head.matches(down) || head.matches(taken));
                loops++;
            }
        }
        due("loops", loops > 0);
    }

    /** Rule 12, and the one room of all calls: rows are made with the object, and no call makes anything more. */
    private static void objects(String code) {
        Pattern field = Pattern.compile("(private )?final (int|long)\\[\\] \\w+ = new (int|long)\\[.*\\];");
        boolean isMaking = false;
        for (String line : code.split("\n")) {
            String told = line.trim();
            isMaking = told.equals("public TableMapper() {") || isMaking && !line.equals("    }");
            if (Pattern.compile("\\bnew\\b|\\.clone\\(|\\bcopyOf").matcher(told).find()) {
                due("made with the object: " + told,
                        isMaking || field.matcher(told).matches() || told.startsWith("throw new "));
            }
        }
    }

    /** A method begins at a line that ends in ") {" and is indented as members are, and ends at a brace so indented. */
    private static void methodLengths(String text) {
        int begun = -1;
        String indent = "";
        String[] lines = text.split("\n");
        for (int i = 0; i < lines.length; i++) {
            Matcher head = Pattern.compile("^( {4}| {8})[a-zA-Z].*\\) (throws \\w+ )?\\{$").matcher(lines[i]);
            if (begun < 0 && head.matches() && !lines[i].matches("\\s*(if|for|while|switch|else).*")) {
                begun = i;
                indent = head.group(1);
            } else if (begun >= 0 && lines[i].equals(indent + "}")) {
                due(lines[begun].trim() + " is short", i - begun <= MOST_LINES);
                begun = -1;
            }
        }
    }
}
