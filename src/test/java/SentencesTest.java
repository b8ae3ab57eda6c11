import java.io.IOException;
import java.nio.file.Files;
import java.nio.file.Path;
import java.util.LinkedHashMap;
import java.util.List;
import java.util.Map;

/**
 * Each sentence of the document's terms and promises stands with a test of its own in one of the edges' tests: no word
 * of it is left over, and no test quotes what the document does not say.
 */
public final class SentencesTest {
    private static final Path DOCUMENT = Path.of("../shared/DOC.md");
    private static int wrong = 0;
    private static int looked = 0;

    public static void main(String[] args) throws IOException {
        Said said = new Said(false);
        TermsEdgesTest.tell(said);
        ChainEdgesTest.tell(said);
        IceEdgesTest.tell(said);
        WordsEdgesTest.tell(said);
        PartsEdgesTest.tell(said);
        Map<String, String> sections = sections(Files.readString(DOCUMENT));
        for (Map.Entry<String, List<String>> one : said.quotes().entrySet()) {
            rule(sections.containsKey(one.getKey()), "there is no section " + one.getKey());
        }
        for (Map.Entry<String, String> section : sections.entrySet()) {
            lookAt(section.getKey(), section.getValue(), said.quotes().getOrDefault(section.getKey(), List.of()));
        }
        System.out.println(looked + " sentences looked for, " + wrong + " without a test or not in the document");
        System.exit(wrong == 0 && looked > 200 ? 0 : 1);
    }

    private static void rule(boolean kept, String what) {
        looked++;
        if (!kept) {
            wrong++;
            System.out.println(what);
        }
    }

    /** By heading, each as one line. */
    private static Map<String, String> sections(String document) {
        Map<String, String> sections = new LinkedHashMap<>();
        for (String part : document.split("\n## ")) {
            int end = part.indexOf('\n');
            String text = part.substring(end + 1).replaceAll("```\\w*", " ").replaceAll("\\s+", " ");
            sections.put(part.substring(0, end).trim(), text);
        }
        return sections;
    }

    private static void lookAt(String heading, String text, List<String> quotes) {
        boolean[] quoted = new boolean[text.length()];
        for (String quote : quotes) {
            int at = text.indexOf(quote);
            // The same words may stand twice: the second quote is of the second place.
            while (at >= 0 && quoted[at]) {
                at = text.indexOf(quote, at + 1);
            }
            rule(at >= 0, heading + " does not say: " + quote);
            for (int i = 0; at >= 0 && i < quote.length(); i++) {
                quoted[at + i] = true;
            }
        }
        if (!heading.equals("Terms") && !heading.startsWith("Promise ")) {
            return;
        }
        // What is left over: the face's line, and signs between sentences.
        StringBuilder left = new StringBuilder();
        for (int i = 0; i < quoted.length; i++) {
            left.append(quoted[i] ? '\n' : text.charAt(i));
        }
        String rest = left.toString().replaceAll("`[^`\n]*\\)`:", "").replaceAll("==== \\d", "").replaceAll("[\\s.]", "");
        rule(rest.isEmpty(), heading + " has words without a test: " + rest);
    }
}
