import java.io.IOException;
import java.lang.reflect.Method;
import java.lang.reflect.Modifier;
import java.nio.file.Files;
import java.nio.file.Path;
import java.util.List;
import java.util.Map;
import java.util.Set;
import java.util.TreeMap;
import java.util.TreeSet;
import java.util.regex.Matcher;
import java.util.regex.Pattern;
import java.util.stream.Stream;

/** Whether README.md shows every call with its answer, lists every call, and tells how to run every test. */
public final class ReadmeTests {
    private static final Kit KIT = new Kit("ReadmeTests");

    public static void main(String[] args) throws IOException {
        String readme = Files.readString(Path.of("README.md"));
        Map<String, Integer> face = face();
        callsShown(readme, face.keySet());
        callsListed(readme, face);
        tests(readme);
        program();
        KIT.end();
    }

    private static Map<String, Integer> face() {
        Map<String, Integer> found = new TreeMap<>();
        for (Method m : YesNoRays.class.getDeclaredMethods()) {
            if (Modifier.isPublic(m.getModifiers())) {
                found.put(m.getName(), m.getParameterCount());
            }
        }
        return found;
    }

    private static void callsShown(String readme, Set<String> names) {
        Set<String> shown = new TreeSet<>();
        for (String block : ReadmeProgram.blocks(readme)) {
            if (!ReadmeProgram.isFunctions(block)) {
                ReadmeProgram.statements(block).forEach(s -> shown.addAll(found("^x\\.(\\w+)\\(", s)));
            }
        }
        KIT.due("the calls that are shown", names, shown);
    }

    private static void callsListed(String readme, Map<String, Integer> face) {
        Map<String, Integer> listed = new TreeMap<>();
        Matcher m = Pattern.compile("(?m)^\\| `(\\w+)\\((.*?)\\)` \\|").matcher(readme);
        while (m.find()) {
            int parameters = m.group(2).isEmpty() ? 0 : m.group(2).split(", ").length;
            KIT.due(m.group(1) + " is listed once", null + "", listed.put(m.group(1), parameters) + "");
        }
        KIT.due("the calls that are listed, and what they take", face, listed);
    }

    private static void tests(String readme) throws IOException {
        Set<String> files = new TreeSet<>();
        try (Stream<Path> paths = Files.list(Path.of("src/test/java"))) {
            paths.map(p -> p.getFileName().toString()).filter(n -> n.endsWith("Tests.java"))
                    .forEach(n -> files.add(n.replace(".java", "")));
        }
        KIT.due("the tests that are listed", files, found("`(\\w+Tests)`", readme));
        KIT.due("how to run them", true, readme.contains("`.ci/run`"));
        KIT.due(".ci/run can be run", true, Files.isExecutable(Path.of(".ci/run")));
    }

    private static void program() {
        String head = "```java\nYesNoRays x = new YesNoRays();\n";
        for (String bad : List.of("x.hues();", "x.hues(); // some", "x.hues(); //0", "x.hues() // 0", "x.hues(); // 0 no")) {
            KIT.due("a program of " + bad, "bad", Kit.thrown(() -> ReadmeProgram.of(head + bad + "\n```\n")));
        }
        String made = ReadmeProgram.of(head + "x.hues(); // 0: none\nx.say(\n ); // NONE\n```\nx.even()\n"
                + "```java\nstatic void a() {\n}\n```\n```java\nx.ray(0, 0); // throws NoSuchElementException\n```\n");
        KIT.due("an answer that is due", true, made.contains("due(\"x.hues()\", 0, x.hues());\n"));
        KIT.due("a constant that is due", true, made.contains("due(\"x.say( )\", YesNoRays.NONE, x.say(\n ));\n"));
        KIT.due("what isn't a program", false, made.contains("x.even()"));
        KIT.due("functions ahead of what is done", true, made.indexOf("void a()") < made.indexOf("void main("));
        KIT.due("an exception that is due", true, made.contains("} catch (NoSuchElementException e) {"));
    }

    private static Set<String> found(String pattern, String text) {
        Set<String> names = new TreeSet<>();
        Matcher m = Pattern.compile(pattern).matcher(text);
        while (m.find()) {
            names.add(m.group(1));
        }
        return names;
    }
}
