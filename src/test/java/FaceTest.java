import java.io.IOException;
import java.lang.reflect.Constructor;
import java.lang.reflect.Field;
import java.lang.reflect.Method;
import java.lang.reflect.Modifier;
import java.nio.file.Files;
import java.nio.file.Path;
import java.util.Arrays;
import java.util.Set;
import java.util.TreeSet;
import java.util.regex.Matcher;
import java.util.regex.Pattern;

/** The public face of the document, and words that LANGUAGE.md keeps out of the program. */
public final class FaceTest {
    private FaceTest() {
    }

    public static void main(String[] args) throws IOException {
        members();
        words();
        Due.end();
    }

    /** Name and number of parameters of each method that the document lists. */
    private static Set<String> listed() {
        Set<String> methods = new TreeSet<>();
        Matcher matcher = Pattern.compile("public int (\\w+)\\(([^)]*)\\);")
                .matcher(Words.section(Words.FACE));
        while (matcher.find()) {
            String parameters = matcher.group(2);
            int number = parameters.isEmpty() ? 0 : parameters.split(",").length;
            methods.add(matcher.group(1) + "(" + number + ")");
        }
        Due.due("methods that the document lists", methods.size(), 13);
        return methods;
    }

    private static void members() {
        Class<SyntaxTrees> face = SyntaxTrees.class;
        Due.due("modifiers", face.getModifiers(), Modifier.PUBLIC | Modifier.FINAL);
        Set<String> methods = new TreeSet<>();
        Set<String> names = new TreeSet<>();
        for (Method method : face.getDeclaredMethods()) {
            if (Modifier.isPrivate(method.getModifiers()) || method.isSynthetic()) {
                continue;
            }
            methods.add(method.getName() + "(" + method.getParameterCount() + ")");
            names.add(method.getName());
            boolean ints = Arrays.stream(method.getParameterTypes()).allMatch(t -> t == int.class);
            Due.due(method + " over int", ints && method.getReturnType() == int.class ? 1 : 0, 1);
            Due.due(method + " modifiers", method.getModifiers(), Modifier.PUBLIC);
        }
        Due.due("the methods are " + methods + ": same", methods.equals(listed()) ? 1 : 0, 1);
        for (Field field : face.getDeclaredFields()) {
            boolean isNone = field.getName().equals("NONE");
            int due = isNone ? Modifier.PUBLIC | Modifier.STATIC | Modifier.FINAL : Modifier.PRIVATE;
            int seen = isNone ? field.getModifiers() : field.getModifiers() & Modifier.PRIVATE;
            Due.due(field + " modifiers", seen, due);
        }
        Constructor<?>[] constructors = face.getDeclaredConstructors();
        Due.due("constructors", constructors.length, 1);
        Due.due("constructor's parameters", constructors[0].getParameterCount(), 0);
        Due.due("constructor's modifiers", constructors[0].getModifiers(), Modifier.PUBLIC);
        insides(face, names);
    }

    private static void insides(Class<?> face, Set<String> names) {
        for (Class<?> inside : face.getDeclaredClasses()) {
            Due.due(inside + " is static", inside.getModifiers() & Modifier.STATIC, Modifier.STATIC);
            Due.due(inside + " has few fields", inside.getDeclaredFields().length <= 20 ? 1 : 0, 1);
            for (Method method : inside.getDeclaredMethods()) {
                Due.due(method + " has a name of the face", names.contains(method.getName()) ? 1 : 0, 0);
                Due.due(method + " parameters", method.getParameterCount() <= 7 ? 1 : 0, 1);
            }
        }
        for (Method method : face.getDeclaredMethods()) {
            boolean hidden = Modifier.isPrivate(method.getModifiers());
            Due.due(method + " bears a public name", hidden && names.contains(method.getName()) ? 1 : 0, 0);
        }
    }

    private static void words() throws IOException {
        String program = Files.readString(Path.of("src/main/java/SyntaxTrees.java"));
        String code = program.replaceAll("(?s)/\\*.*?\\*/", "").replaceAll("//[^\n]*", "");
        Pattern refused = Pattern.compile(
                "\\b(throw|throws|try|catch|finally|synchronized|assert|import|package|System|float|double)\\b"
                        + "|->|::|Exact\\b");
        Matcher matcher = refused.matcher(code);
        Due.due("a refused word", matcher.find() ? 1 : 0, 0);
    }
}
