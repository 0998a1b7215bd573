import java.io.IOException;
import java.lang.reflect.Method;
import java.lang.reflect.Modifier;
import java.nio.file.Files;
import java.nio.file.Path;
import java.util.Arrays;
import java.util.HashMap;
import java.util.Map;
import java.util.regex.Matcher;
import java.util.regex.Pattern;

/** Runs the example of README.md line by line, and looks for every call in its table. */
public final class ReadmeTest {
    /** A name for the answer, if there is one; the call, its arguments, and the answer told. */
    private static final Pattern LINE =
            Pattern.compile("(?:int (\\w+) = )?x\\.(\\w+)\\(([^)]*)\\);\\s+// (-?\\d+)(?::.*)?");
    private static final String FENCE = "```";

    private final SyntaxTrees x = new SyntaxTrees();
    private final Map<String, Integer> names = new HashMap<>(Map.of("SyntaxTrees.NONE", SyntaxTrees.NONE));

    private ReadmeTest() {
    }

    public static void main(String[] args) throws IOException, ReflectiveOperationException {
        String readme = Files.readString(Path.of("README.md"));
        new ReadmeTest().runExample(readme);
        lookForCalls(readme);
        Due.end();
    }

    private void runExample(String readme) throws ReflectiveOperationException {
        int begin = readme.indexOf(FENCE + "java\n");
        int end = readme.indexOf("\n" + FENCE, begin);
        String[] lines = readme.substring(begin, end).split("\n");
        Due.due("the example has lines", lines.length > 2 ? 1 : 0, 1);
        Due.due(lines[1], lines[1].equals("SyntaxTrees x = new SyntaxTrees();") ? 1 : 0, 1);
        for (String line : Arrays.asList(lines).subList(2, lines.length)) {
            runLine(line);
        }
    }

    private void runLine(String line) throws ReflectiveOperationException {
        Matcher matcher = LINE.matcher(line);
        boolean isCall = matcher.matches();
        Due.due("a call with its answer: " + line, isCall ? 1 : 0, 1);
        if (!isCall) {
            return;
        }
        int answer = call(matcher.group(2), matcher.group(3));
        Due.due(line, answer, Integer.parseInt(matcher.group(4)));
        if (matcher.group(1) != null) {
            names.put(matcher.group(1), answer);
        }
    }

    private int call(String name, String arguments) throws ReflectiveOperationException {
        String[] words = arguments.isEmpty() ? new String[0] : arguments.split(", ");
        Object[] values = new Object[words.length];
        for (int k = 0; k < words.length; k++) {
            values[k] = names.containsKey(words[k]) ? names.get(words[k]) : Integer.valueOf(words[k]);
        }
        Class<?>[] types = new Class<?>[words.length];
        Arrays.fill(types, int.class);
        return (int) SyntaxTrees.class.getMethod(name, types).invoke(x, values);
    }

    private static void lookForCalls(String readme) {
        for (Method method : SyntaxTrees.class.getDeclaredMethods()) {
            if (Modifier.isPublic(method.getModifiers())) {
                boolean named = readme.contains("| `" + method.getName() + "(");
                Due.due("the table has " + method.getName(), named ? 1 : 0, 1);
            }
        }
    }
}
