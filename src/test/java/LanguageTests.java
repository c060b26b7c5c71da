import java.io.IOException;
import java.lang.reflect.Array;
import java.lang.reflect.Field;
import java.lang.reflect.Method;
import java.lang.reflect.Modifier;
import java.nio.file.Files;
import java.nio.file.Path;
import java.util.ArrayDeque;
import java.util.ArrayList;
import java.util.Collections;
import java.util.Deque;
import java.util.IdentityHashMap;
import java.util.List;
import java.util.Set;
import java.util.regex.Pattern;

/** Rules of LANGUAGE.md that the source shows, and how much room an object takes. */
public final class LanguageTests {
    private static final Kit KIT = new Kit("LanguageTests");
    private static final Pattern METHOD = Pattern.compile(" +[\\w\\[\\] ]+\\(.*\\).* \\{");
    private static final String MAKES_OBJECT = " *(public |private )?[A-Z]\\w*\\(.*";
    private static final String[] BARRED = {"\\btry\\b", "\\bcatch\\b", "\\bfinally\\b", "->", "::", "\\bassert\\b",
        "\\bsynchronized\\b", "\\bprotected\\b", "\\bThread\\b", "\\bRandom\\b", "\\bdouble\\b", "\\bfloat\\b",
        "System\\.(?!arraycopy)", "Math\\.\\w+Exact", "\\bpackage\\b", "\\bvar\\b", "\\bwhile\\b", "\\bdo\\b"};

    public static void main(String[] args) throws IOException, IllegalAccessException {
        String text = Files.readString(Path.of("src/main/java/YesNoRays.java"));
        String code = text.replaceAll("(?s)/\\*.*?\\*/", "").replaceAll("//.*", "").replaceAll("\"[^\"]*\"", "\"\"");
        words(code);
        methods(code.lines().toList());
        sizes(YesNoRays.class);
        for (Class<?> inside : YesNoRays.class.getDeclaredClasses()) {
            sizes(inside);
        }
        KIT.due("some twelve classes", true, YesNoRays.class.getDeclaredClasses().length < 12);
        room();
        KIT.end();
    }

    private static void words(String code) {
        for (String barred : BARRED) {
            KIT.due("the source has " + barred, false, Pattern.compile(barred).matcher(code).find());
        }
        KIT.due("imports", "import java.util.NoSuchElementException;",
                String.join("\n", code.lines().filter(l -> l.startsWith("import")).toList()));
    }

    /** Methods are short, and none makes an object but an exception: all rows are made with the object. */
    private static void methods(List<String> lines) {
        List<String> made = new ArrayList<>();
        String head = "";
        int length = 0;
        int longest = 0;
        for (String line : lines) {
            if (head.isEmpty() && METHOD.matcher(line).matches()) {
                head = line;
                length = 0;
            }
            length++;
            boolean mayMake = head.isEmpty() ? line.contains("private final ") : head.matches(MAKES_OBJECT);
            if (line.matches(".*\\bnew\\b.*") && !mayMake && !line.contains("throw new ")) {
                made.add(line);
            }
            if (line.equals(head.replaceFirst("\\S.*", "}"))) {
                longest = Math.max(longest, length);
                head = "";
            }
        }
        KIT.due("objects that calls make", List.of(), made);
        KIT.due("methods are found, and the longest is short: " + longest, true, longest > 20 && longest <= 60);
    }

    private static void sizes(Class<?> c) {
        int fields = 0;
        for (Field f : c.getDeclaredFields()) {
            fields += Modifier.isStatic(f.getModifiers()) ? 0 : 1;
            KIT.due(f + " is final, if it is static", true, (f.getModifiers() & (Modifier.STATIC | Modifier.FINAL))
                    != Modifier.STATIC);
        }
        KIT.due(c + " has some twenty fields", true, fields <= 20);
        for (Method m : c.getDeclaredMethods()) {
            KIT.due(m + " takes at most seven", true, m.getParameterCount() <= 7);
        }
    }

    /** A run has room for 600,000 objects and 7,300,000 fields and elements: this is for well over a thousand. */
    private static void room() throws IllegalAccessException {
        YesNoRays x = new YesNoRays();
        Set<Object> first = new ObjectSet().reachedFrom(x);
        long elements = 0;
        for (Object o : first) {
            elements += o.getClass().isArray() ? Array.getLength(o) : o.getClass().getDeclaredFields().length;
        }
        KIT.due("objects of an object: " + first.size(), true, first.size() > 12 && first.size() < 100);
        KIT.due("elements of an object: " + elements, true, elements > 1000 && elements < 5000);
        for (String rays : List.of(Kit.ELEVEN, Kit.PATH, Kit.apart())) {
            useMuch(x, rays);
        }
        KIT.due("objects are as many later", first, new ObjectSet().reachedFrom(x));
    }

    private static void useMuch(YesNoRays x, String rays) {
        KIT.due("rays", 20, Kit.rays(x, rays));
        KIT.due("ask", x.count(8) == 0 ? 0 : Integer.bitCount(x.choice(0)), Kit.ask(x, "many yes = 1"));
        KIT.due("fewest", x.count(9) == 1, x.fewest() != 0);
        KIT.due("spared", x.count(9) == 1, x.spared(true) != 0);
        KIT.due("tree", x.count(9) == 1, x.tree(0) == x.tree(2));
        KIT.due("most", x.count(9) == 0, x.most(0) == x.count(4));
        KIT.due("alike", 1, x.alike(0) & 1);
        KIT.due("parity", x.parity() > 0, x.even() > 0);
        KIT.due("hues", true, x.hues() * x.apart(0) >= 20);
        for (int i = 0; i < 25; i++) {
            x.keep(i % 20, false);
        }
        KIT.due("acts", 19, x.undo());
        KIT.due("said", x.say(), Kit.saidText(x).length());
    }

    /** All objects to which one leads, told apart by which they are. */
    private static final class ObjectSet {
        private final Set<Object> seen = Collections.newSetFromMap(new IdentityHashMap<>());
        private final Deque<Object> open = new ArrayDeque<>();

        Set<Object> reachedFrom(Object start) throws IllegalAccessException {
            note(start);
            for (Object o = open.poll(); o != null; o = open.poll()) {
                for (Field f : o.getClass().isArray() ? new Field[0] : o.getClass().getDeclaredFields()) {
                    if (!f.getType().isPrimitive() && !Modifier.isStatic(f.getModifiers())) {
                        f.setAccessible(true);
                        note(f.get(o));
                    }
                }
            }
            return seen;
        }

        private void note(Object o) {
            if (o != null && seen.add(o)) {
                open.add(o);
            }
        }
    }
}
