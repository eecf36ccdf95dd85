import java.io.IOException;
import java.lang.reflect.Method;
import java.lang.reflect.Modifier;
import java.nio.file.Files;
import java.nio.file.Path;
import java.util.ArrayList;
import java.util.List;
import java.util.Set;
import java.util.TreeSet;
import java.util.regex.Matcher;
import java.util.regex.Pattern;

/** README.md names every call of the face with as many arguments as it has, and its example answers as it says. */
public final class ReadmeTest {
    private static final Pattern LISTED = Pattern.compile("(?m)^\\| `(\\w+)\\(([^)]*)\\)` \\|");
    private static final Pattern CALLED = Pattern.compile("(?m)^pass\\.(\\w+)\\(([^)]*)\\); +// (-?\\d+):");

    public static void main(String[] args) throws IOException {
        String readme = Files.readString(Path.of("README.md"));
        listsEveryCall(readme);
        exampleIsSo(readme);
        for (String told : List.of("new NinthStep()", "at most 512 calls", ".ci/run", "../shared/tests")) {
            Due.is("README.md says " + told, readme.contains(told) ? 1 : 0, 1);
        }
        namesEveryTest(readme);
        Due.end();
    }

    private static void listsEveryCall(String readme) {
        Set<String> listed = new TreeSet<>();
        for (Matcher m = LISTED.matcher(readme); m.find();) {
            String call = m.group(1) + " with " + argumentsOf(m.group(2)).size();
            Due.is("README.md lists once " + call, listed.add(call) ? 1 : 0, 1);
        }
        Set<String> face = new TreeSet<>();
        for (Method method : NinthStep.class.getDeclaredMethods()) {
            if (Modifier.isPublic(method.getModifiers())) {
                face.add(method.getName() + " with " + method.getParameterCount());
            }
        }
        for (String call : face) {
            Due.is("README.md lists " + call, listed.contains(call) ? 1 : 0, 1);
        }
        Due.is("README.md lists just so many calls", listed.size(), face.size());
    }

    private static void exampleIsSo(String readme) {
        NinthStep pass = new NinthStep();
        int lines = 0;
        for (Matcher m = CALLED.matcher(readme); m.find();) {
            lines++;
            Due.is("README.md: " + m.group(), answer(pass, m.group(1), argumentsOf(m.group(2))), Long.parseLong(m.group(3)));
        }
        Due.is("README.md: every line of the example has an answer", lines, readme.split("(?m)^pass\\.", -1).length - 1);
        Due.is("README.md has an example", lines > 0 ? 1 : 0, 1);
    }

    private static long answer(NinthStep pass, String name, List<String> words) {
        for (Method method : NinthStep.class.getDeclaredMethods()) {
            if (method.getName().equals(name) && method.getParameterCount() == words.size()) {
                Object[] values = new Object[words.size()];
                for (int i = 0; i < values.length; i++) {
                    values[i] = valueOf(words.get(i), method.getParameterTypes()[i]);
                }
                try {
                    return ((Number) method.invoke(pass, values)).longValue();
                } catch (ReflectiveOperationException e) {
                    throw new IllegalStateException(name, e);
                }
            }
        }
        throw new IllegalStateException("no call of the face: " + name);
    }

    private static Object valueOf(String word, Class<?> type) {
        if (type == boolean.class) {
            return Boolean.valueOf(word);
        }
        if (type == long.class) {
            return Long.valueOf(word);
        }
        return Integer.valueOf(word);
    }

    private static List<String> argumentsOf(String text) {
        List<String> all = new ArrayList<>();
        for (String each : text.split(",")) {
            if (!each.isBlank()) {
                all.add(each.trim());
            }
        }
        return all;
    }

    private static void namesEveryTest(String readme) throws IOException {
        try (var files = Files.list(Path.of("src/test/java"))) {
            for (Path file : files.sorted().toList()) {
                String name = file.getFileName().toString().replace(".java", "");
                if (name.endsWith("Test")) {
                    Due.is("README.md names " + name, readme.contains("| " + name + " |") ? 1 : 0, 1);
                }
            }
        }
    }
}
