import java.io.IOException;
import java.lang.reflect.Field;
import java.lang.reflect.Method;
import java.lang.reflect.Modifier;
import java.nio.file.Files;
import java.nio.file.Path;
import java.util.Arrays;
import java.util.List;
import java.util.Set;
import java.util.TreeSet;

/** The rules of LANGUAGE.md that can be looked at from outside: the face, the words, the sizes. */
public final class RulesTest {
    private static final Due due = new Due();
    private static final String FACE = "act anew ask back body by child comes count done drawn element feed field howLong image judge keep lap"
        + " lapOrSum laps lapsFor law led mend minutes minutesFor more most oak of owes put redo remind row run shift sponsor sponsors"
        + " taken top trace undo whose";
    private static final String[] WORDS = {"throw", "throws", "try", "catch", "finally", "synchronized", "assert", "import", "package",
        "yield", "var", "Object", "Exact"};

    public static void main(String[] args) throws IOException {
        face();
        classes();
        source(Files.readAllLines(Path.of("src/main/java/PennyALap.java")));
        due.end();
    }

    private static void face() {
        Set<String> names = new TreeSet<>();
        for (Method method : PennyALap.class.getDeclaredMethods()) {
            int how = method.getModifiers();
            if (Modifier.isPublic(how)) {
                names.add(method.getName());
            } else {
                due.is("private: " + method.getName(), Modifier.isPrivate(how) ? 1 : 0, 1);
            }
        }
        due.is("the face: " + names, names.equals(new TreeSet<>(List.of(FACE.split(" ")))) ? 1 : 0, 1);
        due.is("constructors", PennyALap.class.getDeclaredConstructors().length, 1);
        for (Field field : PennyALap.class.getDeclaredFields()) {
            boolean told = List.of("BAD", "NOT", "FULL", "STATE", "VOID").contains(field.getName());
            due.is("visible: " + field.getName(), Modifier.isPublic(field.getModifiers()) ? 1 : 0, told ? 1 : 0);
        }
    }

    private static void classes() {
        List<String> names = List.of(FACE.split(" "));
        Class<?>[] inside = PennyALap.class.getDeclaredClasses();
        due.is("few classes", inside.length <= 11 ? 1 : 0, 1);
        for (Class<?> one : inside) {
            due.is("static: " + one, Modifier.isStatic(one.getModifiers()) ? 1 : 0, 1);
            for (Method method : one.getDeclaredMethods()) {
                due.is("a name of the face: " + one + " " + method.getName(), names.contains(method.getName()) ? 1 : 0, 0);
                due.is("parameters of " + method.getName(), method.getParameterCount() <= 7 ? 1 : 0, 1);
            }
            fields(one);
        }
        fields(PennyALap.class);
    }

    private static void fields(Class<?> one) {
        int own = 0;
        for (Field field : one.getDeclaredFields()) {
            boolean isStatic = Modifier.isStatic(field.getModifiers());
            own += isStatic ? 0 : 1;
            due.is("static and not final: " + field, isStatic && !Modifier.isFinal(field.getModifiers()) ? 1 : 0, 0);
        }
        due.is("fields of " + one, own <= 20 ? 1 : 0, 1);
    }

    private static void source(List<String> lines) {
        boolean inComment = false;
        int began = -1;
        String indent = "";
        for (int i = 0; i < lines.size(); i++) {
            String line = lines.get(i);
            inComment |= line.contains("/**");
            String code = inComment ? "" : line.contains("//") ? line.substring(0, line.indexOf("//")) : line;
            inComment &= !line.contains("*/");
            List<String> words = Arrays.asList(code.split("[^A-Za-z]+"));
            for (String word : WORDS) {
                due.is("line " + (i + 1) + " has " + word, words.contains(word) ? 1 : 0, 0);
            }
            due.is("line " + (i + 1) + " has a sign of a lambda", code.contains("->") || code.contains("::") ? 1 : 0, 0);
            due.is("line " + (i + 1) + " is long", line.length() <= 130 ? 1 : 0, 1);
            if (began < 0 && code.matches(" {4,8}[a-zA-Z].*\\) \\{")) {
                began = i;
                indent = code.substring(0, code.indexOf(code.trim()));
            } else if (began >= 0 && line.equals(indent + "}")) {
                due.is("the method at line " + (began + 1) + " is short", i - began <= 60 ? 1 : 0, 1);
                began = -1;
            }
        }
    }
}
