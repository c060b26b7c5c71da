import java.io.IOException;
import java.lang.reflect.Constructor;
import java.lang.reflect.Field;
import java.lang.reflect.Method;
import java.lang.reflect.Modifier;
import java.nio.file.Files;
import java.nio.file.Path;
import java.util.ArrayList;
import java.util.Collections;
import java.util.List;
import java.util.Set;
import java.util.TreeSet;

/** The public face, as the document has it, and what of LANGUAGE.md can be seen from the source alone. */
public final class FaceTests {
    private static final Kit KIT = new Kit("FaceTests");
    private static final String[] FACE = {
        "int feed(int,int,int,int,int)", "int rays(int) bad", "int fault()", "int count(int) none",
        "int ray(int,int) none", "boolean isIn(int) none", "int product(int,int) none", "int meets(int) none",
        "int frame(int) none", "int choice(int) none", "int having(int,int) none", "int forced(int,int,int) none bad",
        "int tree(int) none", "int spared(boolean)", "int fewest()", "boolean isRefused(int) bad", "int most(int) none",
        "int parity()", "int proof(int) none", "int even()", "int symmetries(int) none", "int alike(int) none",
        "int third(int,int,int) none", "int lacking(int) none", "int parts()", "int far(int,int) none",
        "int apart(int) none", "int hues()", "int say()", "int said(int)", "boolean keep(int,boolean) none",
        "int only(int) bad", "int rule(int) bad", "int undo()", "int ask(int) bad"};
    private static final String[] BARRED = {"\\btry\\b", "\\bcatch\\b", "\\bfinally\\b", "->", "::", "\\bassert\\b",
        "\\bsynchronized\\b", "\\bprotected\\b", "\\bThread\\b", "\\bRandom\\b", "\\bdouble\\b", "\\bfloat\\b",
        "System\\.(?!arraycopy)", "Math\\.\\w+Exact", "\\bpackage\\b", "\\bvar\\b"};

    public static void main(String[] args) throws IOException {
        face();
        source(Files.readString(Path.of("src/main/java/YesNoRays.java")));
        KIT.end();
    }

    private static void face() {
        KIT.due("the class's modifiers", Modifier.PUBLIC | Modifier.FINAL, YesNoRays.class.getModifiers());
        Set<String> publicNames = new TreeSet<>();
        List<String> found = new ArrayList<>();
        for (Method m : YesNoRays.class.getDeclaredMethods()) {
            if (!Modifier.isPrivate(m.getModifiers())) {
                KIT.due(m + " is public", Modifier.PUBLIC, m.getModifiers());
                found.add(told(m));
                publicNames.add(m.getName());
            }
        }
        List<String> due = new ArrayList<>(List.of(FACE));
        Collections.sort(due);
        Collections.sort(found);
        KIT.due("the methods", due, found);
        List<String> shadows = new ArrayList<>();
        privateNames(YesNoRays.class, publicNames, shadows);
        for (Class<?> inside : YesNoRays.class.getDeclaredClasses()) {
            KIT.due(inside + " is static", true, Modifier.isStatic(inside.getModifiers()));
            privateNames(inside, publicNames, shadows);
        }
        KIT.due("private methods with a public one's name", List.of(), shadows);
        KIT.due("classes", true, YesNoRays.class.getDeclaredClasses().length < 12);
        for (Field f : YesNoRays.class.getDeclaredFields()) {
            boolean isFace = f.getName().equals("NONE") || f.getName().equals("HIDDEN");
            int modifiers = Modifier.PUBLIC | Modifier.STATIC | Modifier.FINAL;
            KIT.due(f + "", true, isFace ? f.getModifiers() == modifiers : Modifier.isPrivate(f.getModifiers()));
        }
        Constructor<?>[] made = YesNoRays.class.getDeclaredConstructors();
        KIT.due("constructors", 1, made.length);
        KIT.due("the constructor takes nothing", 0, made[0].getParameterCount());
        KIT.due("the constructor is public", Modifier.PUBLIC, made[0].getModifiers());
    }

    private static String told(Method m) {
        StringBuilder text = new StringBuilder(m.getReturnType() + " " + m.getName() + "(");
        for (int i = 0; i < m.getParameterCount(); i++) {
            text.append(i == 0 ? "" : ",").append(m.getParameterTypes()[i]);
        }
        text.append(')');
        for (Class<?> e : m.getExceptionTypes()) {
            text.append(e == IllegalArgumentException.class ? " bad" : " none");
        }
        return text.toString();
    }

    private static void privateNames(Class<?> c, Set<String> names, List<String> shadows) {
        for (Method m : c.getDeclaredMethods()) {
            if (!Modifier.isPublic(m.getModifiers()) && names.contains(m.getName())) {
                shadows.add(c.getSimpleName() + "." + m.getName());
            }
        }
    }

    private static void source(String text) {
        String code = text.replaceAll("(?s)/\\*.*?\\*/", "").replaceAll("//.*", "").replaceAll("\"[^\"]*\"", "\"\"");
        for (String barred : BARRED) {
            KIT.due("the source has " + barred, false, java.util.regex.Pattern.compile(barred).matcher(code).find());
        }
        KIT.due("imports", "import java.util.NoSuchElementException;",
                String.join("\n", code.lines().filter(l -> l.startsWith("import")).toList()));
        KIT.due("while loops, whose end is harder to see", false, code.contains("while"));
    }
}
