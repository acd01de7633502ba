import java.lang.reflect.Constructor;
import java.lang.reflect.Field;
import java.lang.reflect.Method;
import java.lang.reflect.Modifier;
import java.nio.file.Files;
import java.nio.file.Path;
import java.util.Set;
import java.util.TreeSet;
import java.util.regex.Matcher;
import java.util.regex.Pattern;

/** What of LANGUAGE.md can be read from the source and from the compiled classes. */
public final class LanguageTest {
    private static final Path SOURCE = Path.of("src/main/java/DiagramDesk.java");
    private static final String[] FORBIDDEN = {"package", "throw", "throws", "try", "catch", "finally", "synchronized",
        "assert", "import\\s+static", "->", "::", "System\\.(?!arraycopy)", "Exact", "equals", "hashCode", "toString",
        "Random", "Thread", "protected", "volatile"};
    private static final String[] FACE = {"addShape", "removeShape", "resize", "shape", "port", "bring", "at", "connect",
        "disconnect", "connectors", "point", "length", "through", "select", "selected", "group", "ungroup", "shapesOf",
        "move", "drag", "correction", "align", "distribute", "addGuide", "clearGuides", "setGrid", "setTolerance",
        "type", "clear", "read", "undo", "fingerprint"};

    public static void main(String[] args) throws Exception {
        words();
        face();
        nested();
        room();
        Due.finish();
    }

    private static String code() throws Exception {
        return Files.readString(SOURCE).replaceAll("(?s)/\\*.*?\\*/", "").replaceAll("//[^\n]*", "");
    }

    private static void words() throws Exception {
        String code = code();
        for (String word : FORBIDDEN) {
            String pattern = word.matches("\\w+") ? "\\b" + word + "\\b" : word;
            Due.due("forbidden: " + word, Pattern.compile(pattern).matcher(code).find() ? 1 : 0, 0);
        }
        Matcher divisor = Pattern.compile("[\\w)\\]]\\s*[/%]\\s*[\\w(]").matcher(code);
        Due.due("a bare division", divisor.find() ? 1 : 0, 0);
    }

    private static void face() {
        Due.due("public and final", DiagramDesk.class.getModifiers(), Modifier.PUBLIC | Modifier.FINAL);
        Set<String> methods = new TreeSet<>();
        for (Method method : DiagramDesk.class.getDeclaredMethods()) {
            int modifiers = method.getModifiers();
            Due.due(method.getName() + " is public or private", modifiers & (Modifier.PUBLIC | Modifier.PRIVATE),
                    Set.of(FACE).contains(method.getName()) ? Modifier.PUBLIC : Modifier.PRIVATE);
            Due.due(method.getName() + " stands once", methods.add(method.getName()) ? 1 : 0, 1);
            Due.due(method.getName() + " has few parameters", method.getParameterCount() <= 7 ? 1 : 0, 1);
        }
        for (String name : FACE) {
            Due.due("method " + name, methods.contains(name) ? 1 : 0, 1);
        }
        Constructor<?>[] constructors = DiagramDesk.class.getDeclaredConstructors();
        Due.due("one constructor", constructors.length, 1);
        Due.due("a public one", constructors[0].getModifiers(), Modifier.PUBLIC);
        Set<String> constants = Set.of("BAD", "STATE", "FULL", "OUTSIDE", "NONE");
        for (Field field : DiagramDesk.class.getDeclaredFields()) {
            boolean isConstant = constants.contains(field.getName());
            Due.due("field " + field.getName(), field.getModifiers() & (Modifier.PUBLIC | Modifier.PRIVATE),
                    isConstant ? Modifier.PUBLIC : Modifier.PRIVATE);
        }
    }

    private static void nested() {
        Class<?>[] classes = DiagramDesk.class.getDeclaredClasses();
        Due.due("few classes", classes.length <= 12 ? 1 : 0, 1);
        for (Class<?> one : classes) {
            Due.due(one.getName() + " is static", Modifier.isStatic(one.getModifiers()) ? 1 : 0, 1);
            int fields = 0;
            for (Field field : one.getDeclaredFields()) {
                boolean isStatic = Modifier.isStatic(field.getModifiers());
                fields += isStatic ? 0 : 1;
                Due.due(field + " is final, if static", !isStatic || Modifier.isFinal(field.getModifiers()) ? 1 : 0, 1);
            }
            Due.due(one.getName() + " has few fields", fields <= 20 ? 1 : 0, 1);
            for (Method method : one.getDeclaredMethods()) {
                Due.due(method + " is not named as the face", Set.of(FACE).contains(method.getName()) ? 1 : 0, 0);
            }
        }
    }

    /** Objects are made in constructors alone: by a field with its row, or one by one into a row. */
    private static void room() throws Exception {
        Matcher made = Pattern.compile("(?m)^.*\\bnew\\b.*$").matcher(code());
        Pattern allowed = Pattern.compile("\\s*(private )?final \\w+(\\[\\])? \\w+ = new .*|\\s*\\w+\\[k\\] = new \\w+\\(\\);"
                + "|        \\w+ = new \\w+\\(\\);");
        while (made.find()) {
            Due.due("made in a constructor: " + made.group(), allowed.matcher(made.group()).matches() ? 1 : 0, 1);
        }
    }
}
