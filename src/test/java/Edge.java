import java.lang.reflect.Method;
import java.lang.reflect.Modifier;
import java.util.HashMap;
import java.util.Map;
import java.util.TreeMap;

/**
 * One boundary case of the document, on an object of its own: calls that come before, one call, the answer that is due.
 * Calls are written as "row 0 2 3, set 0 1 -7" (true is 1, false 0). Each case is done on two objects, one of which is
 * looked at before the call and the other behind it, so that neither gets more calls than the document allows.
 */
final class Edge {
    static final String MAX = " " + Integer.MAX_VALUE;
    static final String MIN = " " + Integer.MIN_VALUE;

    private static final int MOST_CALLS = 512;
    private static final Map<String, Method> FACE = face();

    private final NinthStep x = new NinthStep();
    private final String sentence;
    private int calls;

    private Edge(String sentence) {
        this.sentence = sentence;
    }

    private static Map<String, Method> face() {
        Map<String, Method> found = new HashMap<>();
        for (Method m : NinthStep.class.getDeclaredMethods()) {
            if (Modifier.isPublic(m.getModifiers())) {
                found.put(m.getName(), m);
            }
        }
        return found;
    }

    // ---- the cases

    /** The call is refused: nothing changes but how many refusals there were. */
    static void refuses(String sentence, String before, String call, int code) {
        Map<String, Long> look = lookBehind(sentence, before);
        look.merge("status " + (10 - code), 1L, Long::sum);
        lookIs(sentence, before, call, code, look);
    }

    /** The call changes nothing at all, and isn't refused, even by NONE; so, asked again, it answers the same. */
    static void thinks(String sentence, String before, String call, long due) {
        lookIs(sentence, before, call, due, lookBehind(sentence, before));
        does(sentence + ", asked again", before, call, due, call + " = " + due);
    }

    /** The call does something, and isn't refused; then come further calls, written as "status 1 = 6, holds 0 = -1". */
    static void does(String sentence, String before, String call, long due, String... then) {
        Edge edge = new Edge(sentence);
        edge.prepare(before);
        long[] refused = edge.refusals();
        edge.answers(call, due);
        long[] still = edge.refusals();
        for (int i = 0; i < refused.length; i++) {
            Due.is(sentence + ": refusals " + (-2 - i) + " behind " + call, still[i], refused[i]);
        }
        for (String each : then) {
            for (String one : each.split(", ")) {
                String[] sides = one.split(" = ");
                edge.answers(sides[0], Long.parseLong(sides[1]));
            }
        }
        edge.endWithin();
    }

    /** The text is a PASS of so many STATEMENTS. */
    static void reads(String sentence, String before, String text, int statements, String... then) {
        does(sentence + " \"" + text + "\"", join(before, tape(text)), "pass", statements, then);
    }

    /** The text has a FAULT at its ^ (which isn't fed): it is refused as BAD, and nothing changes, but THE TAPE is empty. */
    static void faults(String sentence, String before, String marked) {
        int fault = marked.indexOf('^');
        if (fault < 0) {
            throw new IllegalArgumentException("no fault is marked: " + marked);
        }
        faultsAt(sentence + " \"" + marked + "\"", join(before, tape(marked.replace("^", ""))), fault);
    }

    static void faultsAt(String sentence, String before, int fault) {
        Map<String, Long> look = lookBehind(sentence, before);
        look.merge("status 12", 1L, Long::sum);
        look.put("status 8", 0L);
        lookIs(sentence, before, "pass", -20 - fault, look);
    }

    // ---- calls to come before

    static String join(String... parts) {
        StringBuilder all = new StringBuilder();
        for (String part : parts) {
            all.append(all.length() > 0 && !part.isEmpty() ? ", " : "").append(part);
        }
        return all.toString();
    }

    static String times(int n, String call) {
        String[] all = new String[n];
        for (int i = 0; i < n; i++) {
            all[i] = call;
        }
        return join(all);
    }

    static String tape(String text) {
        StringBuilder all = new StringBuilder();
        for (int i = 0; i < text.length(); i++) {
            all.append(i > 0 ? ", " : "").append("feed ").append((int) text.charAt(i));
        }
        return all.toString();
    }

    /** SHELF s holds a ROW of just these elements. */
    static String rowOf(int s, int sort, long... elements) {
        StringBuilder all = new StringBuilder("row " + s + " " + sort + " " + elements.length);
        for (int i = 0; i < elements.length; i++) {
            all.append(", set ").append(s).append(' ').append(i).append(' ').append(elements[i]);
        }
        return all.toString();
    }

    /** The same thing (STONE 0, INN 1, CLIFF 2, VIEW 3) at all PLACES from one to another. */
    static String fill(int from, int to, int what) {
        StringBuilder all = new StringBuilder();
        for (int p = from; p <= to; p++) {
            all.append(p > from ? ", " : "").append("put ").append(p).append(' ').append(what).append(" 1");
        }
        return all.toString();
    }

    // ---- how a case is done

    private static Map<String, Long> lookBehind(String sentence, String before) {
        Edge edge = new Edge(sentence);
        edge.prepare(before);
        Map<String, Long> look = edge.look();
        edge.endWithin();
        return look;
    }

    private static void lookIs(String sentence, String before, String call, long due, Map<String, Long> want) {
        Edge edge = new Edge(sentence);
        edge.prepare(before);
        edge.answers(call, due);
        Map<String, Long> got = edge.look();
        edge.endWithin();
        for (String seen : want.keySet()) {
            Due.is(sentence + ": " + seen + " behind " + call, got.getOrDefault(seen, Long.MIN_VALUE), want.get(seen));
        }
        Due.is(sentence + ": as much as before is seen behind " + call, got.size(), want.size());
    }

    /** None of the calls that come before may be refused: the case would not be the one that is meant. */
    private void prepare(String before) {
        if (before.isEmpty()) {
            return;
        }
        for (String each : before.split(", ")) {
            long answer = call(each);
            boolean any = each.startsWith("seed") || each.startsWith("element");
            Due.is(sentence + ": beforehand " + each + " is refused", !any && answer < -1 ? 1 : 0, 0);
        }
    }

    private void answers(String each, long due) {
        Due.is(sentence + ": " + each, call(each), due);
    }

    private long[] refusals() {
        long[] all = new long[5];
        for (int i = 0; i < all.length; i++) {
            all[i] = call("status " + (12 + i));
        }
        return all;
    }

    /** All that calls which change nothing can tell. */
    private Map<String, Long> look() {
        Map<String, Long> seen = new TreeMap<>();
        for (int what = 0; what <= 16; what++) {
            note(seen, "status " + what);
        }
        for (int m = 0; m < seen.get("status 1"); m++) {
            for (int what = 0; what <= 5; what++) {
                note(seen, "muleOf " + m + " " + what);
            }
        }
        for (int p = 0; p <= seen.get("status 0"); p++) {
            note(seen, "placeOf " + p);
        }
        for (int s = 0; s < 8; s++) {
            note(seen, "holds " + s);
            long held = seen.get("holds " + s);
            for (int i = 0; i < 40 && held >= 0 && held < 10; i++) {
                note(seen, "element " + s + " " + i);
            }
        }
        return seen;
    }

    private void note(Map<String, Long> seen, String each) {
        seen.put(each, call(each));
    }

    private void endWithin() {
        Due.is(sentence + ": " + calls + " calls are too many", calls > MOST_CALLS ? 1 : 0, 0);
    }

    private long call(String each) {
        calls++;
        String[] words = each.trim().split(" +");
        Method method = FACE.get(words[0]);
        if (method == null) {
            throw new IllegalArgumentException("no call of the face: " + each);
        }
        Class<?>[] types = method.getParameterTypes();
        if (types.length != words.length - 1) {
            throw new IllegalArgumentException("not so many arguments: " + each);
        }
        Object[] values = new Object[types.length];
        for (int i = 0; i < types.length; i++) {
            values[i] = valueOf(words[i + 1], types[i]);
        }
        try {
            return ((Number) method.invoke(x, values)).longValue();
        } catch (ReflectiveOperationException e) {
            Due.is(sentence + ": " + each + " threw " + e.getCause(), 1, 0);
            return Long.MIN_VALUE;
        }
    }

    private static Object valueOf(String word, Class<?> type) {
        if (type == boolean.class) {
            return Integer.parseInt(word) != 0;
        }
        if (type == long.class) {
            return Long.parseLong(word);
        }
        return Integer.parseInt(word);
    }
}
