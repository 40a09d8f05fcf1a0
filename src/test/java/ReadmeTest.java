import java.io.IOException;
import java.lang.reflect.Method;
import java.lang.reflect.Modifier;
import java.nio.file.DirectoryStream;
import java.nio.file.Files;
import java.nio.file.Path;
import java.util.LinkedHashMap;
import java.util.Map;
import java.util.Set;
import java.util.TreeSet;
import java.util.regex.Matcher;
import java.util.regex.Pattern;

/** README.md: each call that is written there answers what stands behind it, and the page leaves nothing out. */
public final class ReadmeTest {
    private static final Pattern BLOCK = Pattern.compile("(?s)```java\n(.*?)```");
    private static final Pattern MADE = Pattern.compile("TableMapper x = new TableMapper\\(\\);");
    private static final Pattern CALL = Pattern.compile(
            "(?:int (\\w+) = )?x\\.(\\w+)\\((.*?)\\); +"
                    + "// (-?\\d+|true|false|throws NoSuchElementException)(?:[:;] .*)?");
    private static final Checks CHECKS = new Checks();

    private final String page = Files.readString(Path.of("README.md"));
    private final Set<String> called = new TreeSet<>();
    /** What a written name stands for: the answer of the call that it was given. */
    private final Map<String, String> names = new LinkedHashMap<>();

    private ReadmeTest() throws IOException {
    }

    public static void main(String[] args) throws IOException {
        ReadmeTest test = new ReadmeTest();
        test.calls();
        test.eachCallOfTheFace();
        test.promises();
        test.tests();
        CHECKS.end();
    }

    private void calls() {
        StringBuilder script = new StringBuilder();
        Matcher block = BLOCK.matcher(page);
        while (block.find()) {
            for (String line : block.group(1).split("\n")) {
                script.append(statement(line)).append('\n');
            }
        }
        Script.run(script.toString(), (call, got, due) ->
                CHECKS.due("README.md: " + call + " is " + got + ", the page says " + due, got.equals(due), true));
    }

    /** As Script has it; a line that is neither an object made nor a call with an answer is a fault of the page. */
    private String statement(String line) {
        if (MADE.matcher(line).matches()) {
            return "new";
        }
        Matcher call = CALL.matcher(line);
        boolean isCall = call.matches();
        CHECKS.due("README.md: a call with an answer: " + line, isCall, true);
        if (!isCall) {
            return "";
        }
        String due = call.group(4).replace("throws NoSuchElementException", "throws");
        String statement = call.group(2) + "(" + withNumbers(call.group(3)) + ") = " + due;
        called.add(call.group(2));
        if (call.group(1) != null) {
            names.put(call.group(1), due);
        }
        return statement;
    }

    private String withNumbers(String arguments) {
        String told = arguments.replace("TableMapper.NONE", "-1").replaceAll("(\\d)L\\b", "$1");
        for (Map.Entry<String, String> name : names.entrySet()) {
            told = told.replaceAll("\\b" + name.getKey() + "\\b", name.getValue());
        }
        return told;
    }

    private void eachCallOfTheFace() {
        for (Method method : TableMapper.class.getDeclaredMethods()) {
            if (Modifier.isPublic(method.getModifiers())) {
                CHECKS.due("README.md has a call of " + method.getName(), called.contains(method.getName()), true);
            }
        }
    }

    private void promises() throws IOException {
        Document document = new Document();
        for (int number = 1; number <= Document.PROMISES; number++) {
            String row = "| " + document.promise(number).replaceFirst("`: ", "` | ") + " |\n";
            CHECKS.due("README.md has promise " + number + " as the document has it", page.contains(row), true);
        }
    }

    private void tests() throws IOException {
        try (DirectoryStream<Path> tests = Files.newDirectoryStream(Path.of("src/test/java"), "*Test.java")) {
            for (Path test : tests) {
                String name = test.getFileName().toString().replace(".java", "");
                CHECKS.due("README.md names " + name, page.contains("`" + name + "`"), true);
            }
        }
    }
}
