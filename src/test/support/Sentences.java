import java.nio.file.Files;
import java.nio.file.Path;
import java.util.ArrayList;
import java.util.LinkedHashMap;
import java.util.List;
import java.util.Map;

/**
 * Tests that stand behind sentences of the document: says names the sentence, holds runs calls that would be answered
 * otherwise if it were broken. At the end each sentence of the sections that were opened must have had its test, so
 * that a sentence that is new in the document is not overlooked.
 */
final class Sentences {
    static final String STATE = "throws IllegalStateException; ";
    static final String ARGUMENT = "throws IllegalArgumentException; ";
    static final String INDEX = "throws IndexOutOfBoundsException; ";

    private static final Path DOCUMENT = Path.of("../shared/DOC.md");
    /** Lines of the document that promise nothing, and those that DocumentTest looks at. */
    private static final String NO_PROMISE = "```.*|## .*|Ahead of the calls .*|Examples: .*|[1-4]\\. .*";
    private static final String HEADING = "(Circuits|Formulas|Reading a formula|Exploring|Cubes and frames|The proof"
        + "|Clauses by elimination|Circuits with free bits|Exceptions)\\.";

    private final CallScript script = new CallScript();
    private final Map<String, List<String>> sections = new LinkedHashMap<>();
    private final List<String> untested = new ArrayList<>();
    private String section = "";
    private String sentence = "";
    private int sentences = 0;
    private int runs = 1;

    Sentences() throws Exception {
        List<String> inSection = new ArrayList<>();
        for (String line : lines()) {
            if (line.startsWith("## ")) {
                inSection = new ArrayList<>();
                sections.put(line.substring(3), inSection);
            }
            if (!line.isBlank() && !line.matches(NO_PROMISE)) {
                inSection.addAll(List.of(line.split("(?<=[.]|[.]\\)) (?=[A-Z(])")));
                inSection.removeIf(piece -> piece.matches(HEADING));
            }
        }
    }

    static List<String> lines() throws Exception {
        return Files.readAllLines(DOCUMENT);
    }

    List<String> headings() {
        return List.copyOf(sections.keySet());
    }

    List<String> sentencesOf(String heading) {
        return sections.getOrDefault(heading, List.of());
    }

    void section(String heading) {
        section = heading;
        untested.addAll(sentencesOf(heading));
        complainUnless(sections.containsKey(heading), "the document has no section " + heading);
    }

    void says(String... quotes) {
        complainUnless(runs > 0, "there is no test for: " + sentence);
        runs = 0;
        sentences++;
        sentence = section + ": " + String.join(" / ", quotes);
        for (String quote : quotes) {
            boolean stands = sentencesOf(section).stream().anyMatch(piece -> piece.contains(quote));
            complainUnless(stands, section + ": the document does not say there: " + quote);
            untested.removeIf(piece -> piece.contains(quote));
        }
    }

    void holds(String calls) throws Exception {
        runs++;
        script.run(sentence, calls);
    }

    void holds(String complaint, boolean so) {
        runs++;
        script.asked++;
        complainUnless(so, sentence + ": " + complaint);
    }

    private void complainUnless(boolean holds, String complaint) {
        if (!holds) {
            script.wrong++;
            System.out.println(complaint);
        }
    }

    /** A call in which a question mark stands for each of the given values, all of which are refused. */
    static String refused(String call, String exception, int... values) {
        StringBuilder calls = new StringBuilder();
        for (int value : values) {
            calls.append(call.replace("?", String.valueOf(value))).append(" = ").append(exception);
        }
        return calls.toString();
    }

    /** Tells what was found, and ends with exit code 1 if something is not as due. */
    void finish() {
        complainUnless(runs > 0, "there is no test for: " + sentence);
        for (String piece : untested) {
            complainUnless(false, "a sentence of the document has no test: " + piece);
        }
        System.out.println(sentences + " sentences, " + script.asked + " calls, " + script.wrong + " answers are not as due");
        if (script.wrong != 0) {
            System.exit(1);
        }
    }
}
