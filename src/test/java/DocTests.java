import java.io.IOException;
import java.nio.file.Files;
import java.nio.file.Path;
import java.util.Map;
import java.util.TreeMap;

/** Whether the sentences that the edge tests name stand in the document, and whether they are all that there are. */
public final class DocTests {
    private static final Kit KIT = new Kit("DocTests");

    public static void main(String[] args) throws IOException {
        Kit lister = Kit.lister();
        TextEdgeTests.all(lister);
        TermEdgeTests.all(lister);
        RayEdgeTests.all(lister);
        ActEdgeTests.all(lister);
        QuestionEdgeTests.all(lister);
        Map<String, String> left = sections(Files.readString(Path.of("../shared/DOC.md")));
        for (Kit.Sentence s : lister.sentences) {
            String text = left.getOrDefault(s.section(), "");
            int at = text.indexOf(s.words());
            KIT.due(s.section() + " says: " + s.words(), true, at >= 0);
            if (at >= 0) {
                left.put(s.section(), text.substring(0, at) + "#" + text.substring(at + s.words().length()));
            }
        }
        for (String section : left.keySet()) {
            if (section.equals("Terms") || section.startsWith("Promise")) {
                KIT.due(section + ", sentences without a test", "", left.get(section).replaceAll("[# ]", ""));
            }
        }
        KIT.due("promises", 36L, left.keySet().stream().filter(s -> s.startsWith("Promise")).count());
        KIT.end();
    }

    /** By its heading, each section's sentences alone: without the face of a call and without marks. */
    private static Map<String, String> sections(String doc) {
        Map<String, String> found = new TreeMap<>();
        for (String part : doc.split("(?m)^## ")) {
            String[] two = part.split("\n", 2);
            String text = two.length < 2 ? "" : two[1].replaceAll("```\\w*", " ").replaceAll("\\s+", " ");
            text = text.replaceFirst("^ `[^`]*`: ", "").replaceAll("==== \\d\\.", "").replace("The constants:", "");
            found.put(two[0].replaceFirst(":.*", ""), text);
        }
        return found;
    }
}
