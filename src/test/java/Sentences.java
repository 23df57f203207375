import java.io.IOException;
import java.nio.file.Files;
import java.nio.file.Path;
import java.util.LinkedHashMap;
import java.util.Map;

/**
 * The document's sentences. A test names the one that it stands for, which must stand in the document
 * word for word; at the end no word may be left that no test named.
 */
final class Sentences {
    private static final Path DOCUMENT = Path.of("../shared/DOC.md");

    private static final class Section {
        String text = "";
        boolean[] named;
    }

    private final Due due;
    private final Map<String, Section> sections = new LinkedHashMap<>();

    Sentences(Due due) throws IOException {
        this.due = due;
        Section section = new Section();
        for (String line : Files.readAllLines(DOCUMENT)) {
            if (line.startsWith("## ")) {
                section = new Section();
                sections.put(line.substring(3).trim(), section);
            } else if (!line.startsWith("```")) {
                section.text += line + " ";
            }
        }
        for (Section each : sections.values()) {
            each.text = each.text.replaceAll("\\s+", " ").trim().replaceFirst("^`[^`]*`: ", "");
            each.named = new boolean[each.text.length()];
        }
    }

    /** A new object for the test of a sentence. */
    Asked stands(String heading, String sentence) {
        due.about(heading + ", \"" + sentence + "\"");
        name(heading, sentence);
        return again();
    }

    /** One more new object for the same sentence. */
    Asked again() {
        return new Asked(due);
    }

    String text(String heading) {
        Section section = sections.get(heading);
        return section == null ? "" : section.text;
    }

    /** Words that only lead to what others say. */
    void leads(String heading, String words) {
        due.about(heading);
        name(heading, words);
    }

    private void name(String heading, String words) {
        Section section = sections.get(heading);
        int at = section == null ? -1 : section.text.indexOf(words);
        due.is("the document says: " + words, at >= 0, true);
        for (int k = 0; at >= 0 && k < words.length(); k++) {
            section.named[at + k] = true;
        }
    }

    void allAreNamed() {
        int seen = 0;
        for (Map.Entry<String, Section> each : sections.entrySet()) {
            seen++;
            due.about(each.getKey());
            due.is("no test stands for: " + leftOf(each.getValue()), leftOf(each.getValue()).isEmpty(), true);
        }
        due.about("the document");
        due.is("what it is, its face, Terms, 17 promises, what is not promised", seen, 21);
    }

    private String leftOf(Section section) {
        StringBuilder left = new StringBuilder();
        for (int k = 0; k < section.named.length; k++) {
            char c = section.text.charAt(k);
            if (!section.named[k] && (Character.isLetterOrDigit(c) || left.length() > 0)) {
                left.append(c);
            }
        }
        return left.toString().replaceAll("[^A-Za-z0-9]+$", "");
    }
}
