import java.io.IOException;
import java.lang.reflect.Field;
import java.lang.reflect.Method;
import java.lang.reflect.Modifier;
import java.nio.file.Files;
import java.nio.file.Path;
import java.util.List;
import java.util.Set;
import java.util.TreeSet;
import java.util.regex.Matcher;
import java.util.regex.Pattern;

/** What of LANGUAGE.md can be seen from the text and from the compiled class. */
public final class SourceRulesTest {
    private static final String FACE = "row set copy element holds show says length put mule stand teach slip feed wipe"
        + " pass muleOf placeOf stops minutes after good falls missed turns roped meets last train crowd best stones"
        + " numbers sure judge worst lucky goes turn day home seed image back status";

    private static final String[] FORBIDDEN = {"\\bthrow\\b", "\\btry\\b", "\\bcatch\\b", "\\bsynchronized\\b",
        "\\bassert\\b", "\\bimport\\b", "\\bpackage\\b", "->", "::", "\\bprotected\\b", "\\bdouble\\b", "\\bfloat\\b",
        "Exact\\(", "\\bObject\\b", "\\bhashCode\\b", "\\btoString\\b", "\\bstatic \\{"};

    public static void main(String[] args) throws IOException {
        String source = Files.readString(Path.of("src/main/java/NinthStep.java"));
        face();
        names();
        words(source);
        sizes(source);
        objectsAreMadeInConstructorsOnly(source);
        Due.end();
    }

    private static void face() {
        Set<String> due = new TreeSet<>(List.of(FACE.split(" ")));
        Set<String> found = new TreeSet<>();
        for (Method m : NinthStep.class.getDeclaredMethods()) {
            if (!Modifier.isPrivate(m.getModifiers())) {
                found.add(m.getName());
                Due.is("rule 1: public " + m.getName(), Modifier.isPublic(m.getModifiers()) ? 1 : 0, 1);
            }
        }
        Due.is("rule 1: the face", found.equals(due) ? 1 : 0, 1);
        for (Field f : NinthStep.class.getDeclaredFields()) {
            boolean isNone = f.getName().equals("NONE");
            Due.is("rule 1: field " + f.getName(), Modifier.isPrivate(f.getModifiers()) != isNone ? 1 : 0, 1);
            boolean isStatic = Modifier.isStatic(f.getModifiers());
            Due.is("rule 5: field " + f.getName(), !isStatic || Modifier.isFinal(f.getModifiers()) ? 1 : 0, 1);
        }
        Due.is("rule 1: constructors", NinthStep.class.getDeclaredConstructors().length, 1);
        Due.is("rule 1: final", Modifier.isFinal(NinthStep.class.getModifiers()) ? 1 : 0, 1);
    }

    private static void names() {
        Set<String> due = new TreeSet<>(List.of(FACE.split(" ")));
        Class<?>[] inside = NinthStep.class.getDeclaredClasses();
        Due.is("rule 11: classes", inside.length <= 12 ? 1 : 0, 1);
        for (Class<?> c : inside) {
            Due.is("rule 2: static " + c.getName(), Modifier.isStatic(c.getModifiers()) ? 1 : 0, 1);
            int fields = 0;
            for (Field f : c.getDeclaredFields()) {
                fields += Modifier.isStatic(f.getModifiers()) ? 0 : 1;
            }
            Due.is("rule 11: fields of " + c.getName(), fields <= 20 ? 1 : 0, 1);
            for (Method m : c.getDeclaredMethods()) {
                Due.is("rule 1: the name " + m.getName(), due.contains(m.getName()) ? 1 : 0, 0);
                Due.is("rule 11: parameters of " + m.getName(), m.getParameterCount() <= 7 ? 1 : 0, 1);
            }
        }
        for (Method m : NinthStep.class.getDeclaredMethods()) {
            boolean isPrivate = Modifier.isPrivate(m.getModifiers());
            Due.is("rule 1: the name " + m.getName(), isPrivate && due.contains(m.getName()) ? 1 : 0, 0);
            Due.is("rule 11: parameters of " + m.getName(), m.getParameterCount() <= 7 ? 1 : 0, 1);
        }
    }

    private static void words(String source) {
        String code = source.replaceAll("(?s)/\\*.*?\\*/", "").replaceAll("//[^\n]*", "");
        for (String word : FORBIDDEN) {
            Due.is("rules 2 to 6: " + word, Pattern.compile(word).matcher(code).find() ? 1 : 0, 0);
        }
        Matcher library = Pattern.compile("\\b(Integer|Math|System|Arrays|List|ArrayList)\\.(\\w+)").matcher(code);
        Set<String> listed = Set.of("Math.max", "Math.min", "System.arraycopy");
        while (library.find()) {
            Due.is("rule 4: " + library.group(), listed.contains(library.group()) ? 1 : 0, 1);
        }
        for (int i = 0; i < source.length(); i++) {
            if (source.charAt(i) > 126) {
                Due.is("rule 4: a sign above 126 at " + i, 1, 0);
            }
        }
    }

    private static void sizes(String source) {
        String[] lines = source.split("\n");
        int from = -1;
        String end = "";
        for (int i = 0; i < lines.length; i++) {
            boolean begins = lines[i].matches(" {4,8}(public|private).*\\(.*\\) \\{");
            if (begins) {
                from = i;
                end = lines[i].replaceAll("\\S.*", "") + "}";
            } else if (from >= 0 && lines[i].equals(end)) {
                Due.is("rule 11: lines of " + lines[from].trim(), i - from <= 60 ? 1 : 0, 1);
                from = -1;
            }
        }
    }

    /** So that no run of calls can use up the room. */
    private static void objectsAreMadeInConstructorsOnly(String source) {
        for (String line : source.split("\n")) {
            if (line.matches(".*\\bnew \\w+.*;")) {
                boolean fits = line.matches(" +private final .*") || line.matches(" +(shelves|mules)\\[\\w\\] = new \\w+\\(\\);");
                Due.is("rule 12: " + line.trim(), fits ? 1 : 0, 1);
            }
        }
    }
}
