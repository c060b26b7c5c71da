import java.io.IOException;
import java.nio.file.Files;
import java.nio.file.Path;
import java.util.ArrayList;
import java.util.List;
import java.util.regex.Matcher;
import java.util.regex.Pattern;

/**
 * Makes a program of the Java that README.md shows: what begins with a comment or with 'static' are its functions, all
 * else is done in order, and each call has to have its answer behind it, or what it throws.
 */
final class ReadmeProgram {
    private static final Pattern BLOCK = Pattern.compile("(?s)```java\n(.*?)```");
    private static final Pattern CALL = Pattern.compile(
            "(?s)(x\\.\\w+\\(.*\\)); // (?:(-?\\d+|true|false|NONE|HIDDEN)|throws (\\w+))(?:: .*)?");
    private static final String HEAD = "import java.util.NoSuchElementException;\n\n"
            + "public final class ReadmeShown {\n"
            + "    private static int calls;\n"
            + "    private static int wrong;\n"
            + "    private static void due(String call, Object want, Object got) {\n"
            + "        calls++;\n"
            + "        if (!want.equals(got)) {\n"
            + "            wrong++;\n"
            + "            System.out.println(\"README.md: \" + call + \" answered \" + got + \", shown is \" + want);\n"
            + "        }\n"
            + "    }\n";
    private static final String FOOT = "        System.out.println(\"README.md: \" + (calls - wrong) + \" of \" + calls"
            + " + \" as shown\");\n"
            + "        System.exit(wrong == 0 && calls > 0 ? 0 : 1);\n"
            + "    }\n"
            + "}\n";

    private ReadmeProgram() {
    }

    public static void main(String[] args) throws IOException {
        Files.writeString(Path.of(args[1]), of(Files.readString(Path.of(args[0]))));
    }

    static String of(String readme) {
        StringBuilder functions = new StringBuilder();
        StringBuilder steps = new StringBuilder();
        for (String block : blocks(readme)) {
            if (isFunctions(block)) {
                functions.append(block);
            } else {
                for (String statement : statements(block)) {
                    steps.append(step(statement));
                }
            }
        }
        return HEAD + functions + "    public static void main(String[] args) {\n" + steps + FOOT;
    }

    static List<String> blocks(String readme) {
        List<String> found = new ArrayList<>();
        Matcher m = BLOCK.matcher(readme);
        while (m.find()) {
            found.add(m.group(1));
        }
        return found;
    }

    static boolean isFunctions(String block) {
        return block.startsWith("/**") || block.startsWith("static ");
    }

    /** Each with what stands behind it; a line that is drawn in goes on with the one above. */
    static List<String> statements(String block) {
        return List.of(block.strip().split("\n(?! )"));
    }

    private static String step(String statement) {
        if (!statement.startsWith("x.")) {
            return statement + "\n";
        }
        Matcher m = CALL.matcher(statement);
        if (!m.matches()) {
            throw new IllegalArgumentException("README.md shows a call without its answer: " + statement);
        }
        String name = "\"" + m.group(1).replaceAll("\\s+", " ").replace("\\", "\\\\").replace("\"", "\\\"") + "\"";
        if (m.group(3) == null) {
            String want = m.group(2).replaceFirst("^(?=[NH])", "YesNoRays.");
            return "due(" + name + ", " + want + ", " + m.group(1) + ");\n";
        }
        return "try { due(" + name + ", \"" + m.group(3) + "\", " + m.group(1) + "); } catch (" + m.group(3)
                + " e) { due(" + name + ", " + m.group(3) + ".class, e.getClass()); }\n";
    }
}
