import java.io.IOException;
import java.nio.file.Files;
import java.nio.file.Path;
import java.util.ArrayList;
import java.util.HashSet;
import java.util.LinkedHashMap;
import java.util.List;
import java.util.Map;
import java.util.Set;

/** The sentences of the document, by their section: T0 (what it is), the terms T1 to T5, the promises P1 to P49. */
final class Document {
    private final Map<String, List<String>> sections = new LinkedHashMap<>();
    private final Set<String> tested = new HashSet<>();

    Document(Path file) throws IOException {
        String section = "";
        for (String line : Files.readAllLines(file)) {
            section = sectionAt(line, section);
            if (!section.isEmpty() && isOfSentences(line)) {
                addSentences(section, line);
            }
        }
    }

    private static String sectionAt(String line, String last) {
        if (line.startsWith("## Promise ")) {
            return "P" + line.substring(11, line.indexOf(':'));
        }
        if (line.startsWith("## ")) {
            return line.equals("## What it is") ? "T0" : "";
        }
        return line.matches("[1-5]\\. .*") ? "T" + line.charAt(0) : last;
    }

    private static boolean isOfSentences(String line) {
        boolean isTitle = line.startsWith("## ") || line.matches("[1-5]\\. .*");
        boolean isOfConstants = line.startsWith("The constants: ") || line.startsWith("`LETTERS = 0");
        return !line.isEmpty() && !isTitle && !isOfConstants && !line.startsWith("Ahead of the calls ");
    }

    private void addSentences(String section, String line) {
        int signature = line.startsWith("`") ? line.indexOf("`: ") + 3 : 0;
        List<String> all = sections.computeIfAbsent(section, none -> new ArrayList<>());
        for (String sentence : line.substring(signature).split("(?<=[.)]) (?=[(A-Z]|undo\\(\\))")) {
            all.add(sentence);
        }
    }

    Set<String> sections() {
        return sections.keySet();
    }

    /** Notes that a test follows for the sentence of the section that has these words; answers whether there is one. */
    boolean test(String section, String words) {
        for (String sentence : sections.getOrDefault(section, List.of())) {
            if (sentence.contains(words)) {
                tested.add(section + sentence);
                return true;
            }
        }
        return false;
    }

    /** The sentences for which no test was noted. */
    List<String> untested() {
        List<String> all = new ArrayList<>();
        for (Map.Entry<String, List<String>> section : sections.entrySet()) {
            for (String sentence : section.getValue()) {
                if (!tested.contains(section.getKey() + sentence)) {
                    all.add(section.getKey() + ": " + sentence);
                }
            }
        }
        return all;
    }
}
