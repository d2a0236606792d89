import java.io.IOException;
import java.io.UncheckedIOException;
import java.nio.file.Files;
import java.nio.file.Path;
import java.util.ArrayList;
import java.util.HashSet;
import java.util.List;
import java.util.Set;

/** The document's sentences by promise, 0 for those before promise 1, and which of them a test has quoted. */
final class Document {
    private static final Path FILE = Path.of("../shared/DOC.md");
    private static final int PROMISES = 39;

    private final List<List<String>> sections = new ArrayList<>();
    private final Set<String> quoted = new HashSet<>();

    Document() {
        for (int promise = 0; promise <= PROMISES; promise++) {
            sections.add(new ArrayList<>());
        }
        int promise = -1;
        for (String line : lines()) {
            if (line.equals("## Description") || line.startsWith("An object is used for at most")) {
                promise = 0;
            } else if (line.startsWith("## Promise ")) {
                promise = Integer.parseInt(line.substring(11, line.indexOf(':')));
            } else if (line.startsWith("## ") || line.startsWith("Examples: ")) {
                promise = -1;
            } else if (line.equals("The constants:")) {
                promise = 0;
            }
            if (promise >= 0 && !line.startsWith("##")) {
                addSentences(sections.get(promise), line);
            }
        }
    }

    private static List<String> lines() {
        try {
            return Files.readAllLines(FILE);
        } catch (IOException problem) {
            throw new UncheckedIOException(problem);
        }
    }

    private static void addSentences(List<String> section, String line) {
        if (line.startsWith("- ")) {
            section.add(line.substring(2));
            return;
        }
        if (line.isBlank() || line.startsWith("`") || line.startsWith("----") || line.endsWith(":")
                || line.startsWith("The constructor and the methods follow")) {
            return;
        }
        for (String sentence : line.split("(?<=\\.) ")) {
            if (sentence.contains(" ")) {
                section.add(sentence);
            }
        }
        if (line.startsWith("Returns ")) {
            addConditions(section, line);
        }
    }

    /** The parts of a Returns line that name a case of their own. */
    private static void addConditions(List<String> section, String line) {
        for (String part : line.substring(0, line.length() - 1).split("; ")) {
            if (part.contains(" if ") || part.contains(" also ")) {
                section.add(part);
            }
        }
    }

    /** Whether the sentence stands in the document under its promise; it counts as quoted from now on. */
    boolean quote(int promise, String sentence) {
        quoted.add(promise + " " + sentence);
        return sections.get(promise).contains(sentence);
    }

    List<String> unquoted() {
        List<String> result = new ArrayList<>();
        for (int promise = 0; promise <= PROMISES; promise++) {
            for (String sentence : sections.get(promise)) {
                if (!quoted.contains(promise + " " + sentence)) {
                    result.add("promise " + promise + ": " + sentence);
                }
            }
        }
        return result;
    }
}
