import java.io.IOException;
import java.nio.file.Files;
import java.nio.file.Path;
import java.util.Arrays;
import java.util.LinkedHashMap;
import java.util.Map;

/**
 * Tests that name the sentence of DOC.md that they are about. A name that does not stand there under
 * its heading is a failure, and so is, in the end, a word of the document that no test has named.
 */
final class Sentence {
    private static final Path DOC = Path.of("../shared/DOC.md");

    private final Map<String, String> sections = new LinkedHashMap<>();
    private final Map<String, boolean[]> named = new LinkedHashMap<>();

    Sentence() throws IOException {
        if (!Files.exists(DOC)) {
            // The tests themselves do not need it.
            System.out.println("there is no " + DOC + ": the names of the sentences are not looked up");
            return;
        }
        String heading = "";
        StringBuilder text = new StringBuilder();
        for (String line : Files.readAllLines(DOC)) {
            if (line.startsWith("## ")) {
                keep(heading, text.toString());
                // "Promise 3: end" is called "Promise 3".
                heading = line.substring(3).replaceAll(":.*", "");
                text.setLength(0);
            } else if (!line.startsWith("```")) {
                text.append(line).append(' ');
            }
        }
        keep(heading, text.toString());
    }

    private void keep(String heading, String text) {
        if (heading.startsWith("Promise ") || heading.equals("Terms") || heading.equals("What it is")) {
            // FaceTest looks at what stands ahead of a promise's words, its line of the face.
            String words = plain(text).replaceFirst("^`[^`]*`: ", "");
            sections.put(heading, words);
            named.put(heading, new boolean[words.length()]);
        }
    }

    private static String plain(String text) {
        return text.replaceAll("\\s+", " ").trim();
    }

    void holds(String heading, String sentence, Runnable test) {
        Check.about = heading + " (\"" + sentence + "\"): ";
        if (!sections.isEmpty()) {
            lookUp(heading, plain(sentence));
        }
        try {
            test.run();
        } catch (RuntimeException e) {
            Check.due("the test ended by " + e + ", which", 1, 0);
        }
        Check.about = "";
    }

    private void lookUp(String heading, String sentence) {
        int from = sections.getOrDefault(heading, "").indexOf(sentence);
        Check.due("where the document has it is found", from >= 0, true);
        if (from >= 0) {
            Arrays.fill(named.get(heading), from, from + sentence.length(), true);
        }
    }

    void noneIsLeft() {
        for (Map.Entry<String, String> section : sections.entrySet()) {
            boolean[] covered = named.get(section.getKey());
            StringBuilder left = new StringBuilder();
            for (int k = 0; k < covered.length; k++) {
                left.append(covered[k] ? ' ' : section.getValue().charAt(k));
            }
            boolean none = left.chars().noneMatch(Character::isLetterOrDigit);
            Check.due(section.getKey() + ": no test names \"" + plain(left.toString()) + "\", which", none, true);
        }
    }
}
