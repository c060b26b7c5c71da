import java.io.IOException;
import java.lang.reflect.Constructor;
import java.lang.reflect.Field;
import java.lang.reflect.Method;
import java.lang.reflect.Modifier;
import java.nio.file.Files;
import java.nio.file.Path;
import java.util.ArrayList;
import java.util.Collections;
import java.util.List;
import java.util.Set;
import java.util.TreeSet;
import java.util.regex.Matcher;
import java.util.regex.Pattern;
import java.util.stream.Stream;

/** The public face, as ../shared/DOC.md has it, and nothing else that can be seen from outside. */
public final class FaceTests {
    private static final Kit KIT = new Kit("FaceTests");

    public static void main(String[] args) throws IOException {
        String doc = Files.readString(Path.of("../shared/DOC.md"));
        face(doc.replaceAll("(?s).*```java\n|```.*", ""));
        KIT.end();
    }

    private static void face(String told) {
        KIT.due("the class's modifiers", Modifier.PUBLIC | Modifier.FINAL, YesNoRays.class.getModifiers());
        Set<String> publicNames = new TreeSet<>();
        List<String> found = new ArrayList<>();
        for (Method m : YesNoRays.class.getDeclaredMethods()) {
            if (!Modifier.isPrivate(m.getModifiers())) {
                KIT.due(m + " is public", Modifier.PUBLIC, m.getModifiers());
                found.add(told(m));
                publicNames.add(m.getName());
            }
        }
        List<String> due = dueMethods(told);
        Collections.sort(due);
        Collections.sort(found);
        KIT.due("how many methods", 35, due.size());
        KIT.due("the methods", due, found);
        List<String> shadows = new ArrayList<>();
        privateNames(YesNoRays.class, publicNames, shadows);
        for (Class<?> inside : YesNoRays.class.getDeclaredClasses()) {
            KIT.due(inside + " is static", true, Modifier.isStatic(inside.getModifiers()));
            privateNames(inside, publicNames, shadows);
        }
        KIT.due("private methods with a public one's name", List.of(), shadows);
        constants(told);
        Constructor<?>[] made = YesNoRays.class.getDeclaredConstructors();
        KIT.due("constructors", 1, made.length);
        KIT.due("the constructor takes nothing", 0, made[0].getParameterCount());
        KIT.due("the constructor is public", Modifier.PUBLIC, made[0].getModifiers());
    }

    /** The methods of the document's face, without the names of what they take. */
    private static List<String> dueMethods(String told) {
        List<String> found = new ArrayList<>();
        Matcher m = Pattern.compile("public (\\w+ \\w+\\(.*\\).*);").matcher(told);
        while (m.find()) {
            found.add(m.group(1).replaceAll("(int|boolean) \\w+(?=[,)])", "$1"));
        }
        return found;
    }

    private static String told(Method m) {
        List<String> takes = Stream.of(m.getParameterTypes()).map(Class::getSimpleName).toList();
        List<String> throwsThese = Stream.of(m.getExceptionTypes()).map(Class::getSimpleName).toList();
        return m.getReturnType() + " " + m.getName() + "(" + String.join(", ", takes) + ")"
                + (throwsThese.isEmpty() ? "" : " throws " + String.join(", ", throwsThese));
    }

    private static void constants(String told) {
        List<String> due = new ArrayList<>();
        Matcher m = Pattern.compile("public (static final int \\w+ = \\S+);").matcher(told);
        while (m.find()) {
            due.add(m.group(1));
        }
        List<String> found = new ArrayList<>();
        for (Field f : YesNoRays.class.getDeclaredFields()) {
            if (!Modifier.isPrivate(f.getModifiers())) {
                KIT.due(f + " is public", true, Modifier.isPublic(f.getModifiers()));
                int value = f.getName().equals("NONE") ? YesNoRays.NONE : YesNoRays.HIDDEN;
                found.add(Modifier.toString(f.getModifiers()).replace("public ", "") + " " + f.getType() + " "
                        + f.getName() + " = " + value);
            }
        }
        KIT.due("how many constants", 2, due.size());
        KIT.due("the constants", due, found);
    }

    private static void privateNames(Class<?> c, Set<String> names, List<String> shadows) {
        for (Method m : c.getDeclaredMethods()) {
            if (!Modifier.isPublic(m.getModifiers()) && names.contains(m.getName())) {
                shadows.add(c.getSimpleName() + "." + m.getName());
            }
        }
    }
}
