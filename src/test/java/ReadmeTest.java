import java.io.IOException;
import java.lang.reflect.InvocationTargetException;
import java.lang.reflect.Method;
import java.nio.file.Files;
import java.nio.file.Path;
import java.util.Map;
import java.util.Set;
import java.util.TreeMap;
import java.util.TreeSet;
import java.util.regex.Matcher;
import java.util.regex.Pattern;

/** README.md tells each call with the answers that the document names for it, and its examples answer as it says. */
public final class ReadmeTest {
    private static final Checks C = new Checks();
    private static final Map<String, Integer> NAMED = Map.of("BAD", OmenLine.BAD, "STATE", OmenLine.STATE,
            "FULL", OmenLine.FULL, "NONE", OmenLine.NONE);
    private static final int MOST_CALLS = 512;

    private final Set<String> called = new TreeSet<>();
    private OmenLine x = new OmenLine();
    private int calls;

    public static void main(String[] args) throws IOException, ReflectiveOperationException {
        String readme = Files.readString(Path.of("README.md"));
        String document = Files.readString(Path.of("../shared/DOC.md"));
        callsAreTold(readme, document);
        new ReadmeTest().examplesAnswer(readme);
        C.that("it says for how many calls an object is good", readme.contains(MOST_CALLS + " calls"));
        C.that("it says how to run the tests", readme.contains(".ci/run"));
        C.finish();
    }

    private static void callsAreTold(String readme, String document) {
        Map<String, String> promised = promises(document);
        Map<String, String> told = new TreeMap<>();
        Matcher m = Pattern.compile("(?m)^\\| `(\\w+\\([^)]*\\))` \\|.*$").matcher(readme);
        while (m.find()) {
            C.that(m.group(1) + " is told once", told.put(m.group(1), constantsIn(m.group())) == null);
        }
        C.due("calls of the document", promised.size(), 36);
        C.that("calls that are told: " + told.keySet(), told.keySet().equals(promised.keySet()));
        for (String call : promised.keySet()) {
            C.that(call + " is told with " + told.get(call) + ", due is " + promised.get(call),
                    promised.get(call).equals(told.get(call)));
        }
    }

    /** By each call with the names of its numbers: which of the four answers its promise names. */
    private static Map<String, String> promises(String document) {
        Map<String, String> promised = new TreeMap<>();
        Matcher m = Pattern.compile("(?m)^`(?:int|long) (\\w+)\\(([^)]*)\\)`: (.*)$").matcher(document);
        while (m.find()) {
            String names = m.group(2).replaceAll("(int|boolean) ", "");
            promised.put(m.group(1) + "(" + names + ")", constantsIn(m.group(3)));
        }
        return promised;
    }

    private static String constantsIn(String words) {
        Set<String> found = new TreeSet<>();
        Matcher m = Pattern.compile("\\b(BAD|STATE|FULL|NONE)\\b").matcher(words);
        while (m.find()) {
            found.add(m.group());
        }
        return found.toString();
    }

    private void examplesAnswer(String readme) throws ReflectiveOperationException {
        Matcher block = Pattern.compile("(?s)```java\n(.*?)```").matcher(readme);
        while (block.find()) {
            for (String row : block.group(1).split("\n")) {
                example(row);
            }
        }
        for (Method m : OmenLine.class.getDeclaredMethods()) {
            if (java.lang.reflect.Modifier.isPublic(m.getModifiers())) {
                C.that("an example of " + m.getName(), called.contains(m.getName()));
            }
        }
    }

    private void example(String row) throws ReflectiveOperationException {
        Matcher fed = Pattern.compile("for \\(char c : \"([^\"]*)\"\\.toCharArray\\(\\)\\) \\{").matcher(row);
        Matcher call = Pattern.compile("x\\.(\\w+)\\((.*)\\); +// (-?\\d+|BAD|STATE|FULL|NONE)\\b.*").matcher(row);
        if (row.equals("OmenLine x = new OmenLine();")) {
            x = new OmenLine();
            calls = 0;
        } else if (fed.matches()) {
            Checks.feed(x, fed.group(1));
            calls += fed.group(1).length();
        } else if (call.matches()) {
            Integer named = NAMED.get(call.group(3));
            long due = named != null ? named : Long.parseLong(call.group(3));
            C.due("README: " + row.trim(), answer(call.group(1), call.group(2)), due);
            called.add(call.group(1));
            calls++;
        } else {
            C.that("README: a row that is not understood: " + row, row.matches("|\\}| +x\\.feed\\(c\\);"));
        }
        C.that("README: no more than 512 calls", calls <= MOST_CALLS);
    }

    private long answer(String name, String list) throws IllegalAccessException, InvocationTargetException {
        String[] words = list.isEmpty() ? new String[0] : list.split(", ");
        for (Method m : OmenLine.class.getDeclaredMethods()) {
            if (m.getName().equals(name) && m.getParameterCount() == words.length) {
                Object[] values = new Object[words.length];
                for (int i = 0; i < words.length; i++) {
                    values[i] = value(words[i], m.getParameterTypes()[i]);
                }
                return ((Number) m.invoke(x, values)).longValue();
            }
        }
        throw new IllegalStateException("no such call: " + name + "(" + list + ")");
    }

    private static Object value(String word, Class<?> type) {
        if (type == boolean.class) {
            return word.equals("true");
        }
        int sum = 0;
        for (String part : word.split(" \\+ ")) {
            sum += Integer.parseInt(part);
        }
        return sum;
    }
}
