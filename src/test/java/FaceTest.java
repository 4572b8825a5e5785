import java.io.IOException;
import java.lang.reflect.Constructor;
import java.lang.reflect.Executable;
import java.lang.reflect.Field;
import java.lang.reflect.Method;
import java.lang.reflect.Modifier;
import java.lang.reflect.Parameter;
import java.nio.file.Files;
import java.nio.file.Path;
import java.util.ArrayList;
import java.util.List;
import java.util.Set;
import java.util.TreeSet;

/**
 * The public face of the class is the one that the document shows, and each promise has its signature from there.
 * The argument is the path of the document; the program is compiled with the names of its parameters.
 */
public final class FaceTest {
    private static final int PROMISES = 44;

    private FaceTest() {
    }

    public static void main(String[] args) throws IOException {
        Check check = new Check();
        List<String> lines = Files.readAllLines(Path.of(args[0]));
        Set<String> due = faceOf(lines);
        for (String line : due) {
            check.is("whether the class has: " + line, face().contains(line) ? 1 : 0, 1);
        }
        for (String line : face()) {
            check.is("whether the document shows: " + line, due.contains(line) ? 1 : 0, 1);
        }
        check.is("public classes inside", CrewPairer.class.getClasses().length, 0);
        check.is("the class above it", CrewPairer.class.getSuperclass().getName(), "java.lang.Object");
        check.is("interfaces", CrewPairer.class.getInterfaces().length, 0);
        List<String> promised = promised(lines);
        check.is("promises", promised.size(), PROMISES);
        for (String line : promised) {
            check.is("whether the class has the promised " + line, face().contains("public " + line + ";") ? 1 : 0, 1);
        }
        check.is("whether each constructor and method is promised", new TreeSet<>(promised).size(), callable());
        check.end("FaceTest");
    }

    /** The lines of the document's code block, without those that only open and close it. */
    private static Set<String> faceOf(List<String> lines) {
        Set<String> face = new TreeSet<>();
        boolean code = false;
        for (String line : lines) {
            if (line.startsWith("```")) {
                code = !code;
            } else if (code && !line.equals("}")) {
                face.add(line.trim());
            }
        }
        return face;
    }

    /** The signature behind the heading of each promise. */
    private static List<String> promised(List<String> lines) {
        List<String> all = new ArrayList<>();
        for (int i = 0; i + 2 < lines.size(); i++) {
            if (lines.get(i).startsWith("## Promise " + (all.size() + 1) + ":")) {
                all.add(lines.get(i + 2).replace("`", ""));
            }
        }
        return all;
    }

    private static int callable() {
        int count = 0;
        for (String line : face()) {
            count += line.contains("(") ? 1 : 0;
        }
        return count;
    }

    /** The public members of the class, written as the document writes them. */
    static Set<String> face() {
        Set<String> face = new TreeSet<>();
        Class<?> type = CrewPairer.class;
        face.add(Modifier.toString(type.getModifiers()) + " class " + type.getName() + " {");
        for (Field field : type.getDeclaredFields()) {
            if (!Modifier.isPrivate(field.getModifiers())) {
                face.add(Modifier.toString(field.getModifiers()) + " " + field.getType() + " " + field.getName() + " = "
                        + valueOf(field) + ";");
            }
        }
        for (Constructor<?> constructor : type.getDeclaredConstructors()) {
            if (!Modifier.isPrivate(constructor.getModifiers())) {
                face.add(Modifier.toString(constructor.getModifiers()) + " " + type.getName() + parameters(constructor) + ";");
            }
        }
        for (Method method : type.getDeclaredMethods()) {
            if (!Modifier.isPrivate(method.getModifiers())) {
                face.add(Modifier.toString(method.getModifiers()) + " " + method.getReturnType() + " " + method.getName()
                        + parameters(method) + ";");
            }
        }
        return face;
    }

    private static String valueOf(Field field) {
        try {
            return "" + field.get(null);
        } catch (IllegalAccessException refused) {
            return "hidden";
        }
    }

    private static String parameters(Executable executable) {
        List<String> all = new ArrayList<>();
        for (Parameter parameter : executable.getParameters()) {
            all.add(parameter.getType() + " " + parameter.getName());
        }
        return "(" + String.join(", ", all) + ")";
    }
}
