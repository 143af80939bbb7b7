import java.io.IOException;
import java.lang.reflect.InvocationTargetException;
import java.lang.reflect.Method;
import java.lang.reflect.Modifier;
import java.util.HashMap;
import java.util.HashSet;
import java.util.List;
import java.util.Map;
import java.util.Set;
import java.util.TreeMap;

/** Makes the calls that README.md shows, and holds what it tells of calls and exceptions against the face. */
public final class ReadmeTest {
    private static final int MOST_CALLS = 512;
    private static final int PART_COLUMNS = 3;
    private static final String[] EXCEPTIONS =
        {"IndexOutOfBoundsException", "IllegalArgumentException", "IllegalStateException"};

    private static final TreeMap<String, Method> CALLS = publicCalls();

    private ReadmeTest() {
    }

    private static TreeMap<String, Method> publicCalls() {
        TreeMap<String, Method> calls = new TreeMap<>();
        for (Method method : Billiardry.class.getDeclaredMethods()) {
            if (Modifier.isPublic(method.getModifiers())) {
                calls.put(method.getName(), method);
            }
        }
        return calls;
    }

    // ---- the examples

    private static void examples() throws IOException, ReflectiveOperationException {
        Map<String, Billiardry> objects = new HashMap<>();
        Map<String, Integer> used = new HashMap<>();
        Set<String> shown = new HashSet<>();
        for (Examples.Example example : Examples.all()) {
            if (example.isUnread()) {
                Check.wrong(example.place() + " is no example as this test reads them");
            } else if (example.isMaking()) {
                Billiardry before = objects.put(example.object(), new Billiardry());
                Check.same(example.place() + " makes an object anew", before != null, false);
            } else {
                makeCall(example, objects.get(example.object()));
                shown.add(example.call());
                int calls = used.merge(example.object(), 1, Integer::sum);
                Check.same(example.place() + " is one call too many", calls > MOST_CALLS, false);
            }
        }
        for (String call : CALLS.keySet()) {
            Check.same(call + " is shown in README.md", shown.contains(call), true);
        }
    }

    private static void makeCall(Examples.Example example, Billiardry asked) throws ReflectiveOperationException {
        Method method = CALLS.get(example.call());
        if (asked == null || method == null || !fits(example.arguments(), method.getParameterTypes())) {
            Check.wrong(example.place() + " cannot be called");
            return;
        }
        Check.sameText(example.place(), answer(method, asked, example.arguments()), example.due());
    }

    private static boolean fits(List<String> texts, Class<?>[] types) {
        boolean fits = texts.size() == types.length;
        for (int k = 0; fits && k < types.length; k++) {
            boolean isTruth = texts.get(k).equals("true") || texts.get(k).equals("false");
            fits = isTruth == (types[k] == boolean.class);
        }
        return fits;
    }

    private static String answer(Method method, Billiardry asked, List<String> texts)
            throws ReflectiveOperationException {
        Object[] arguments = new Object[texts.size()];
        for (int k = 0; k < arguments.length; k++) {
            arguments[k] = value(texts.get(k));
        }
        try {
            Object answer = method.invoke(asked, arguments);
            return answer + (answer instanceof Float ? "f" : "");
        } catch (InvocationTargetException e) {
            return "throws " + e.getCause().getClass().getName().replace("java.lang.", "");
        }
    }

    private static Object value(String text) throws ReflectiveOperationException {
        if (text.equals("true") || text.equals("false")) {
            return text.equals("true");
        }
        if (text.startsWith("Billiardry.")) {
            return Billiardry.class.getField(text.substring("Billiardry.".length())).getInt(null);
        }
        return Integer.parseInt(text);
    }

    // ---- the tables

    private static void parts() throws IOException {
        Map<String, Integer> told = new HashMap<>();
        for (String[] row : Examples.rows(PART_COLUMNS)) {
            for (int column = 1; column < PART_COLUMNS; column++) {
                for (String call : row[column].split(", ")) {
                    told.merge(call.replace("`", ""), 1, Integer::sum);
                }
            }
        }
        for (String call : CALLS.keySet()) {
            Check.same("how often the parts of README.md have " + call, told.getOrDefault(call, 0), 1);
        }
        Check.same("calls in the parts of README.md", told.size(), CALLS.size());
    }

    private static void exceptions() throws IOException {
        TreeMap<String, String> told = new TreeMap<>();
        for (String[] row : Examples.rows(1 + EXCEPTIONS.length)) {
            StringBuilder thrown = new StringBuilder();
            for (int k = 0; k < EXCEPTIONS.length; k++) {
                thrown.append(row[k + 1].equals("-") ? "" : " java.lang." + EXCEPTIONS[k]);
            }
            String before = told.put(row[0].replace("`", ""), thrown.toString());
            Check.same("README.md tells twice what " + row[0] + " throws", before != null, false);
        }
        for (Method method : CALLS.values()) {
            StringBuilder thrown = new StringBuilder();
            for (Class<?> type : method.getExceptionTypes()) {
                thrown.append(' ').append(type.getName());
            }
            String due = thrown.toString();
            String got = told.getOrDefault(method.getName(), "");
            Check.sameText("README.md, what " + method.getName() + " throws,", got, due);
        }
        Check.same("calls of README.md that are none", CALLS.keySet().containsAll(told.keySet()), true);
    }

    public static void main(String[] args) throws IOException, ReflectiveOperationException {
        examples();
        parts();
        exceptions();
        Check.end("ReadmeTest");
    }
}
