import java.io.IOException;
import java.nio.file.Files;
import java.nio.file.Path;
import java.util.ArrayList;
import java.util.LinkedHashMap;
import java.util.List;
import java.util.Map;
import java.util.regex.Matcher;
import java.util.regex.Pattern;

/** The document's text by its headings, so that a test's sentence can be looked for in it. */
final class Document {
    static final int PROMISES = 30;
    private static final Path PLACE = Path.of("../shared/DOC.md");
    private static final String TERMS = "Terms";

    private final Map<String, String> sections = new LinkedHashMap<>();

    Document() throws IOException {
        for (String part : Files.readString(PLACE).split("(?m)^## ")) {
            int end = part.indexOf('\n');
            sections.put(part.substring(0, end).trim(), plain(part.substring(end)));
        }
    }

    /** Without line ends and the signs of the text's form. */
    private static String plain(String text) {
        return text.replaceAll("```(text|java)?", " ").replaceAll("==== \\d\\.", " ").replaceAll("\\s+", " ").trim();
    }

    /** All that stands under the promise's own heading. */
    String promise(int number) {
        for (Map.Entry<String, String> section : sections.entrySet()) {
            if (section.getKey().startsWith("Promise " + number + ":")) {
                return section.getValue();
            }
        }
        return "";
    }

    /** Under the promise's own heading. */
    boolean promises(int number, String sentence) {
        return promise(number).contains(sentence);
    }

    /** Under a heading that is no promise's. */
    boolean saysElsewhere(String sentence) {
        for (Map.Entry<String, String> section : sections.entrySet()) {
            if (!section.getKey().startsWith("Promise ") && section.getValue().contains(sentence)) {
                return true;
            }
        }
        return false;
    }

    /** The sentences under 'Terms': each ends with a full stop ahead of a capital letter or the end. */
    List<String> terms() {
        List<String> sentences = new ArrayList<>();
        Matcher sentence = Pattern.compile("\\S.*?\\.(?= [A-Z]|$)").matcher(sections.getOrDefault(TERMS, ""));
        while (sentence.find()) {
            sentences.add(sentence.group());
        }
        return sentences;
    }
}
