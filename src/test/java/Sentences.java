import java.io.IOException;
import java.nio.file.Files;
import java.nio.file.Path;
import java.util.BitSet;
import java.util.LinkedHashMap;
import java.util.Map;

/**
 * Answers that are due, each under the sentence of the document that asks for it. A sentence that
 * does not stand in the document, or under which nothing is asked, is wrong; so is a part of the
 * document that no sentence names.
 */
final class Sentences extends Checks {
    private static final Path DOCUMENT = Path.of("../shared/DOC.md");

    private final Map<String, String> sections = new LinkedHashMap<>();
    private final Map<String, BitSet> named = new LinkedHashMap<>();
    private String name = "";
    private int sentences;
    private int askedBefore;

    Sentences() throws IOException {
        if (!Files.exists(DOCUMENT)) {
            System.out.println("there is no " + DOCUMENT + ": sentences are not compared with it");
            return;
        }
        for (String section : Files.readString(DOCUMENT).split("\n## ")) {
            String title = section.lines().findFirst().orElse("");
            sections.put(title, wordsOf(section.substring(title.length())));
            named.put(title, new BitSet());
        }
    }

    /** Without the marks round what is code, and the heads of methods. */
    private static String wordsOf(String text) {
        return text.replace("```text", "").replaceAll("`[^`\n]+`:", "").replace("`", "").replaceAll("\\s+", " ").strip();
    }

    /** All answers from here on are due by this sentence. */
    void of(String section, String sentence) {
        endSentence();
        name = section + " '" + sentence + "': ";
        sentences++;
        if (sections.isEmpty()) {
            return;
        }
        int from = sections.getOrDefault(section, "").indexOf(sentence);
        due("the sentence stands in the document", from >= 0, true);
        if (from >= 0) {
            named.get(section).set(from, from + sentence.length());
        }
        askedBefore = asked();
    }

    private void endSentence() {
        if (sentences > 0) {
            super.due(name + "something is asked", asked() > askedBefore ? 1 : 0, 1);
        }
        askedBefore = asked();
    }

    @Override
    void due(String what, long got, long want) {
        super.due(name + what, got, want);
    }

    @Override
    void end() {
        endSentence();
        name = "";
        for (Map.Entry<String, String> section : sections.entrySet()) {
            String title = section.getKey();
            if (title.startsWith("Promise") || title.equals("What it is") || title.equals("Terms")) {
                String left = leftOut(section.getValue(), named.get(title));
                due(title + ": left out '" + left + "': letters", left.chars().filter(Character::isLetterOrDigit).count(), 0);
            }
        }
        System.out.println(sentences + " sentences");
        super.end();
    }

    private static String leftOut(String words, BitSet marks) {
        StringBuilder left = new StringBuilder();
        for (int i = 0; i < words.length(); i++) {
            if (!marks.get(i)) {
                left.append(words.charAt(i));
            }
        }
        return left.toString().strip();
    }
}
