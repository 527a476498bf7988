import java.io.IOException;
import java.nio.file.Files;
import java.nio.file.Path;
import java.util.ArrayList;
import java.util.List;

/** The sentences of the document that promise something, each with the section in which it stands. */
final class DocumentText {
    /** Headings of a paragraph, and sentences that only lead to what follows. */
    private static final List<String> NO_PROMISE = List.of("Relations.", "Operations.", "Preservation.", "Kinds.",
        "Instances.", "Text.", "Flags.", "Exceptions.", "More precisely.", "The constants:",
        "The constructor and the methods follow, a promise each: the signature, then what it does.");

    private DocumentText() {
    }

    static String key(String section, String sentence) {
        return section + ": " + sentence;
    }

    /** The keys of all sentences from 'What it is' to the last promise, in the document's order. */
    static List<String> keys(Path document) throws IOException {
        List<String> keys = new ArrayList<>();
        String section = "";
        for (String paragraph : paragraphs(Files.readAllLines(document))) {
            if (paragraph.startsWith("#")) {
                section = sectionOf(paragraph);
            } else if (isPromised(section, paragraph)) {
                section = sectionWithin(section, paragraph);
                for (String sentence : paragraph.split("(?<=\\.) ")) {
                    if (!NO_PROMISE.contains(sentence)) {
                        keys.add(key(section, sentence));
                    }
                }
            }
        }
        return keys;
    }

    /** The last paragraphs of the description begin sections without a heading of their own. */
    private static String sectionWithin(String section, String paragraph) {
        if (paragraph.startsWith("More precisely.")) {
            return "More precisely";
        }
        return paragraph.equals("The constants:") ? "The constants" : section;
    }

    private static String sectionOf(String heading) {
        String name = heading.replaceFirst("#+ ", "");
        return name.startsWith("Promise ") ? name.replaceFirst("Promise (\\d+):.*", "$1") : name;
    }

    /** A signature, a line between groups of methods, and what stands outside of these sections promise nothing. */
    private static boolean isPromised(String section, String paragraph) {
        boolean counts = section.equals("What it is") || section.equals("Description")
            || section.equals("More precisely") || section.equals("The constants") || section.matches("\\d+");
        return counts && !paragraph.startsWith("`") && !paragraph.startsWith("----");
    }

    /** Lines that belong together as one; a line of a list stands alone. */
    private static List<String> paragraphs(List<String> lines) {
        List<String> paragraphs = new ArrayList<>();
        boolean goesOn = false;
        for (String line : lines) {
            boolean stands = line.startsWith("- ") || line.startsWith("#");
            if (goesOn && !stands && !line.isBlank()) {
                int last = paragraphs.size() - 1;
                paragraphs.set(last, paragraphs.get(last) + " " + line.strip());
            } else if (!line.isBlank()) {
                paragraphs.add(line.strip());
            }
            goesOn = !line.isBlank() && !line.startsWith("#");
        }
        return paragraphs;
    }
}
