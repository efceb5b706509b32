import java.io.IOException;
import java.lang.reflect.Constructor;
import java.lang.reflect.Field;
import java.lang.reflect.Method;
import java.lang.reflect.Modifier;
import java.nio.file.Files;
import java.nio.file.Path;
import java.util.ArrayList;
import java.util.List;
import java.util.Map;
import java.util.NoSuchElementException;
import java.util.Set;
import java.util.TreeSet;
import java.util.regex.Matcher;
import java.util.regex.Pattern;

/** The public face, and those rules of LANGUAGE.md that a look at the class and its text can tell. */
public final class FaceTest {
    /** As the document writes them: B, N and A stand for the exceptions that are named below. */
    private static final String[] FACE = {
        "boolean row(int,int) B,A", "int put(int,int,int) A,B,N", "int five(int,int,int,int) B,N",
        "int at(int,int) B,N", "int tear(int,int) B,N", "int noise(int,int,int) A", "int code(int,int,int) A",
        "int tap(int,int,int) B,N,A", "int keep(int,int,int,int) B,N,A", "int stride(int,int) B,N,A",
        "int send(int,int,int,int) B,A", "int length(int,int) B,A", "int cost(int,int,int,int) B,A",
        "int best(int,int,int) B,N,A", "int list(int,int,int,int) B,N,A", "int few(int,int,int,int) B,N,A",
        "int each(int,int,int) B,N,A", "int talk(int,int,int,int) B,N,A", "boolean agreed() ", "int seems(int) N",
        "int way(int,int) N", "int take(int,int) B,N", "boolean bad(int) B,N", "int free(int) B,N",
        "long weights(int,int) B,N,A", "int about(int,int) B,N"};
    private static final Map<Class<?>, String> EXCEPTIONS = Map.of(IndexOutOfBoundsException.class, "B",
            NoSuchElementException.class, "N", IllegalArgumentException.class, "A");
    /** All that the class takes from the library but the exceptions. */
    private static final Set<String> LIBRARY = Set.of("Math.min", "Math.max", "Integer.bitCount");
    private static final String THROW = "throw new (IndexOutOfBounds|NoSuchElement|IllegalArgument)Exception\\(\"[^\"]*\"\\);";
    private static final String[] FORBIDDEN = {
        "try {", "catch (", "->", "::", "finally", "synchronized", "assert ", "System.", "Exact(",
        "static {", "static int[", "static boolean ", "package ", "equals(", "hashCode("};

    public static void main(String[] args) throws IOException {
        face();
        nestedClasses();
        String text = Files.readString(Path.of("src/main/java/PathDecoder.java"));
        words(text);
        library(text);
        throwsOf(text);
        lengths(text);
        Checks.finish("FaceTest");
    }

    private static void face() {
        Class<?> c = PathDecoder.class;
        Checks.due("modifiers", c.getModifiers(), Modifier.PUBLIC | Modifier.FINAL);
        Set<String> names = new TreeSet<>();
        Set<String> told = new TreeSet<>();
        for (Method m : c.getDeclaredMethods()) {
            if (Modifier.isPrivate(m.getModifiers()) || m.isSynthetic()) {
                continue;
            }
            Checks.due("modifiers of " + m.getName(), m.getModifiers(), Modifier.PUBLIC);
            names.add(m.getName());
            told.add(m.getReturnType().getSimpleName() + " " + m.getName() + "(" + names(m.getParameterTypes()) + ") "
                    + names(m.getExceptionTypes()));
        }
        Checks.dueText("the methods", told.toString(), new TreeSet<>(Set.of(FACE)).toString());
        for (Method m : c.getDeclaredMethods()) {
            Checks.due("private " + m.getName(), Modifier.isPrivate(m.getModifiers()) && names.contains(m.getName()), false);
        }
        for (Constructor<?> made : c.getDeclaredConstructors()) {
            Checks.due("modifiers of the constructor", made.getModifiers(), Modifier.PUBLIC);
            Checks.due("parameters of the constructor", made.getParameterCount(), 0);
        }
        for (Field f : c.getDeclaredFields()) {
            boolean isConstant = f.getName().equals("NONE");
            Checks.due(f.getName() + " is private", Modifier.isPrivate(f.getModifiers()), !isConstant);
            boolean isStatic = Modifier.isStatic(f.getModifiers());
            Checks.due(f.getName() + " is final", !isStatic || Modifier.isFinal(f.getModifiers()), true);
            if (isConstant) {
                Checks.due("modifiers of NONE", f.getModifiers(), Modifier.PUBLIC | Modifier.STATIC | Modifier.FINAL);
                Checks.dueText("the type of NONE", f.getType().getSimpleName(), "int");
            }
        }
        Checks.due("NONE", PathDecoder.NONE, -1);
    }

    /** An exception's name is its letter. */
    private static String names(Class<?>[] types) {
        List<String> names = new ArrayList<>();
        for (Class<?> type : types) {
            names.add(EXCEPTIONS.getOrDefault(type, type.getSimpleName()));
        }
        return String.join(",", names);
    }

    private static void nestedClasses() {
        Class<?>[] nested = PathDecoder.class.getDeclaredClasses();
        Checks.due("some twelve classes", nested.length < 12, true);
        for (Class<?> c : nested) {
            Checks.due(c + " is private", Modifier.isPrivate(c.getModifiers()), true);
            Checks.due(c + " is static", Modifier.isStatic(c.getModifiers()), true);
            int fields = 0;
            for (Field f : c.getDeclaredFields()) {
                fields += Modifier.isStatic(f.getModifiers()) ? 0 : 1;
            }
            Checks.due(c + " has few fields", fields <= 20, true);
            for (Method m : c.getDeclaredMethods()) {
                Checks.due(c + "." + m.getName() + " has few parameters", m.getParameterCount() <= 7, true);
                for (String of : FACE) {
                    Checks.due(c + "." + m.getName() + " like " + of, of.contains(" " + m.getName() + "("), false);
                }
            }
        }
    }

    private static void words(String text) {
        for (String word : FORBIDDEN) {
            Checks.due("the text has " + word, text.contains(word), false);
        }
        for (char c : text.toCharArray()) {
            if (c != '\n' && (c < 32 || c > 126)) {
                Checks.due("the text has the sign " + (int) c, true, false);
            }
        }
    }

    private static void library(String text) {
        Matcher imports = Pattern.compile("(?m)^import .*").matcher(text);
        Checks.due("there is an import", imports.find(), true);
        Checks.dueText("the import", imports.group(), "import java.util.NoSuchElementException;");
        Checks.due("there is another import", imports.find(), false);
        Matcher used = Pattern.compile("\\b[A-Z]\\w*[a-z]\\w*\\.\\w+").matcher(text);
        while (used.find()) {
            Checks.due("the library's " + used.group(), LIBRARY.contains(used.group()), true);
        }
    }

    /** Each throw is one that the face names, with a written text, and none stands in a constructor. */
    private static void throwsOf(String text) {
        String end = "";
        for (String line : text.split("\n")) {
            String code = line.strip();
            if (code.matches("(public |private )?[A-Z]\\w*\\(.*\\) \\{")) {
                end = line.substring(0, line.indexOf(code)) + "}";
            }
            if (code.startsWith("throw ")) {
                Checks.due(code, code.matches(THROW), true);
                Checks.due(code + " in a constructor", end.isEmpty(), true);
            }
            end = line.equals(end) ? "" : end;
        }
    }

    private static void lengths(String text) {
        int length = 0;
        int longest = 0;
        for (String line : text.split("\n")) {
            length = line.matches("(    ){1,2}\\S.*\\{") ? 0 : length + 1;
            if (line.matches("(    ){1,2}\\}")) {
                longest = Math.max(longest, length);
                length = 0;
            }
        }
        Checks.due("a method of over 60 lines", longest > 60, false);
    }
}
