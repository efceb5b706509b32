import java.io.IOException;
import java.lang.reflect.Constructor;
import java.lang.reflect.Field;
import java.lang.reflect.Method;
import java.lang.reflect.Modifier;
import java.nio.file.Files;
import java.nio.file.Path;
import java.util.Set;
import java.util.TreeSet;

/** The public face, and those rules of LANGUAGE.md that a look at the class and its text can tell. */
public final class FaceTest {
    private static final String[] FACE = {
        "boolean agreed()", "boolean bad(int)", "boolean row(int,int)",
        "int about(int,int)", "int at(int,int)", "int best(int,int,int)", "int code(int,int,int)",
        "int cost(int,int,int,int)", "int each(int,int,int)", "int few(int,int,int,int)",
        "int five(int,int,int,int)", "int free(int)", "int keep(int,int,int,int)", "int length(int,int)",
        "int list(int,int,int,int)", "int noise(int,int,int)", "int put(int,int,int)", "int seems(int)",
        "int send(int,int,int,int)", "int stride(int,int)", "int take(int,int)",
        "int talk(int,int,int,int)", "int tap(int,int,int)", "int tear(int,int)", "int way(int,int)",
        "long weights(int,int)"};
    private static final String[] FORBIDDEN = {
        "try {", "catch (", "->", "::", "finally", "synchronized", "assert ", "System.", "Exact(",
        "static {", "static int[", "static boolean ", "package ", "equals(", "hashCode("};

    public static void main(String[] args) throws IOException {
        face();
        nestedClasses();
        text();
        Checks.finish("FaceTest");
    }

    private static void face() {
        Class<?> c = PathDecoder.class;
        Checks.due("modifiers", c.getModifiers(), Modifier.PUBLIC | Modifier.FINAL);
        Set<String> names = new TreeSet<>();
        Set<String> told = new TreeSet<>();
        for (Method m : c.getDeclaredMethods()) {
            if (Modifier.isPrivate(m.getModifiers()) || m.isSynthetic()) {
                continue;
            }
            Checks.due("modifiers of " + m.getName(), m.getModifiers(), Modifier.PUBLIC);
            names.add(m.getName());
            String parameters = "";
            for (Class<?> p : m.getParameterTypes()) {
                parameters += (parameters.isEmpty() ? "" : ",") + p.getSimpleName();
            }
            told.add(m.getReturnType().getSimpleName() + " " + m.getName() + "(" + parameters + ")");
        }
        Checks.dueText("the methods", told.toString(), new TreeSet<>(Set.of(FACE)).toString());
        for (Method m : c.getDeclaredMethods()) {
            Checks.due("private " + m.getName(), Modifier.isPrivate(m.getModifiers()) && names.contains(m.getName()), false);
        }
        for (Constructor<?> made : c.getDeclaredConstructors()) {
            Checks.due("modifiers of the constructor", made.getModifiers(), Modifier.PUBLIC);
        }
        for (Field f : c.getDeclaredFields()) {
            boolean isConstant = f.getName().equals("NONE");
            Checks.due(f.getName() + " is private", Modifier.isPrivate(f.getModifiers()), !isConstant);
            boolean isStatic = Modifier.isStatic(f.getModifiers());
            Checks.due(f.getName() + " is final", !isStatic || Modifier.isFinal(f.getModifiers()), true);
        }
        Checks.due("NONE", PathDecoder.NONE, -1);
    }

    private static void nestedClasses() {
        Class<?>[] nested = PathDecoder.class.getDeclaredClasses();
        Checks.due("some twelve classes", nested.length < 12, true);
        for (Class<?> c : nested) {
            Checks.due(c + " is private", Modifier.isPrivate(c.getModifiers()), true);
            Checks.due(c + " is static", Modifier.isStatic(c.getModifiers()), true);
            int fields = 0;
            for (Field f : c.getDeclaredFields()) {
                fields += Modifier.isStatic(f.getModifiers()) ? 0 : 1;
            }
            Checks.due(c + " has few fields", fields <= 20, true);
            for (Method m : c.getDeclaredMethods()) {
                Checks.due(c + "." + m.getName() + " has few parameters", m.getParameterCount() <= 7, true);
                for (String of : FACE) {
                    Checks.due(c + "." + m.getName() + " like " + of, of.contains(" " + m.getName() + "("), false);
                }
            }
        }
    }

    private static void text() throws IOException {
        String text = Files.readString(Path.of("src/main/java/PathDecoder.java"));
        for (String word : FORBIDDEN) {
            Checks.due("the text has " + word, text.contains(word), false);
        }
        String imports = "";
        int length = 0;
        int longest = 0;
        for (String line : text.split("\n")) {
            if (line.startsWith("import ")) {
                imports += line;
            }
            length = line.matches("(    ){1,2}\\S.*\\{") ? 0 : length + 1;
            if (line.matches("(    ){1,2}\\}")) {
                longest = Math.max(longest, length);
                length = 0;
            }
        }
        Checks.dueText("the imports", imports, "import java.util.NoSuchElementException;");
        Checks.due("a method of over 60 lines", longest > 60, false);
    }
}
