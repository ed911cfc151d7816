import java.io.IOException;
import java.lang.reflect.Constructor;
import java.lang.reflect.Field;
import java.lang.reflect.Method;
import java.lang.reflect.Modifier;
import java.nio.file.Files;
import java.nio.file.Path;
import java.util.ArrayList;
import java.util.Arrays;
import java.util.HashSet;
import java.util.List;
import java.util.Set;
import java.util.TreeSet;
import java.util.regex.Matcher;
import java.util.regex.Pattern;

/** The document's face and those rules of LANGUAGE.md that a program can look for. */
public final class RulesTest {
    private static final Checks C = new Checks();
    private static final String FACE = "allowed(int) at(int,int) back(int) block(int,int) bump(int) convert(int) "
            + "count(int) drift(int,int,int) end(int) fault() feed(int) fewest(int) fits(int) forget(int) "
            + "guard(int,boolean) guards(int) hang(int,int) home(int) keep(int) lay(int,int,int) lock(int,int) "
            + "look(int,int) luck(int,int) magpies(int) mean(int,int) read(int,int,int,int) rule(int) see(int,int,int) "
            + "set(int,int,int) sheet(int,int,int) starts(int) sum(int) text() torn() train(int,int) waits(int,int)";

    public static void main(String[] args) throws IOException {
        face();
        nested();
        source(Files.readString(Path.of("src/main/java/OmenLine.java")));
        C.finish();
    }

    private static void face() {
        Set<String> publics = new TreeSet<>();
        for (Method m : OmenLine.class.getDeclaredMethods()) {
            if (Modifier.isPublic(m.getModifiers())) {
                List<String> types = new ArrayList<>();
                for (Class<?> type : m.getParameterTypes()) {
                    types.add(type.getName());
                }
                publics.add(m.getName() + "(" + String.join(",", types) + ")");
                boolean isLong = m.getName().equals("mean") || m.getName().equals("luck");
                C.that(m + " answers as told", m.getReturnType() == (isLong ? long.class : int.class));
            } else {
                C.that("1 " + m + " is private", Modifier.isPrivate(m.getModifiers()));
            }
        }
        C.that("1 the face is " + publics, String.join(" ", publics).equals(FACE));
        Set<String> constants = new TreeSet<>();
        for (Field f : OmenLine.class.getDeclaredFields()) {
            if (Modifier.isPublic(f.getModifiers())) {
                constants.add(f.getName());
            } else {
                C.that("1 " + f + " is private", Modifier.isPrivate(f.getModifiers()));
            }
        }
        C.that("1 the constants", constants.equals(Set.of("BAD", "STATE", "FULL", "NONE")));
        Constructor<?>[] all = OmenLine.class.getDeclaredConstructors();
        C.that("1 one public constructor", all.length == 1 && Modifier.isPublic(all[0].getModifiers())
                && all[0].getParameterCount() == 0);
        C.that("1 public and final", Modifier.isPublic(OmenLine.class.getModifiers())
                && Modifier.isFinal(OmenLine.class.getModifiers()));
    }

    private static void nested() {
        Set<String> names = new HashSet<>(Arrays.asList(FACE.replaceAll("\\([^)]*\\)", "").split(" ")));
        List<Class<?>> classes = new ArrayList<>(Arrays.asList(OmenLine.class.getDeclaredClasses()));
        C.that("11 at most twelve classes", classes.size() < 12);
        for (Class<?> c : classes) {
            C.that("1 " + c + " is static", Modifier.isStatic(c.getModifiers()));
            for (Method m : c.getDeclaredMethods()) {
                C.that("1 " + m + " has a name of its own", !names.contains(m.getName()));
            }
        }
        classes.add(OmenLine.class);
        for (Class<?> c : classes) {
            int fields = 0;
            for (Field f : c.getDeclaredFields()) {
                boolean isStatic = Modifier.isStatic(f.getModifiers());
                fields += isStatic ? 0 : 1;
                C.that("5 " + f + " is final", !isStatic || Modifier.isFinal(f.getModifiers()));
            }
            C.that("11 fields of " + c, fields <= 20);
            for (Method m : c.getDeclaredMethods()) {
                C.that("11 parameters of " + m, m.getParameterCount() <= 7);
                if (c == OmenLine.class && Modifier.isPrivate(m.getModifiers())) {
                    C.that("1 " + m + " has a name of its own", !names.contains(m.getName()));
                }
            }
        }
    }

    private static void source(String whole) {
        for (int i = 0; i < whole.length(); i++) {
            if (whole.charAt(i) > 127) {
                C.that("3 sign " + (int) whole.charAt(i), false);
            }
        }
        String code = whole.replaceAll("(?s)/\\*.*?\\*/", "").replaceAll("//[^\n]*", "")
                .replaceAll("\"[^\"\n]*\"", "\"\"").replaceAll("'[^'\n]*'", "'c'");
        for (String word : new String[] {"throw", "throws", "try", "catch", "finally", "synchronized", "assert",
            "package", "yield", "protected", "native", "volatile", "transient", "Random", "Thread", "Object"}) {
            C.that("6 no " + word, !Pattern.compile("\\b" + word + "\\b").matcher(code).find());
        }
        for (String sign : new String[] {"->", "::", "Exact", "currentTime", "nanoTime", "hashCode", "\"\" +", "+ \"\""}) {
            C.that("no " + sign, !code.contains(sign));
        }
        imports(code);
        lengths(whole);
        news(code);
    }

    private static void imports(String code) {
        Matcher m = Pattern.compile("import ([^;]*);").matcher(code);
        while (m.find()) {
            C.that("4 import of " + m.group(1), m.group(1).equals("java.util.Arrays"));
        }
        m = Pattern.compile("\\b(Arrays|System|Math|Integer|Long)\\.(\\w+)").matcher(code);
        Set<String> allowed = Set.of("Arrays.fill", "System.arraycopy", "Math.min", "Math.max", "Integer.bitCount");
        while (m.find()) {
            C.that("4 " + m.group(), allowed.contains(m.group()));
        }
    }

    /** Rows are made with the object alone, so calls of any number need no room. */
    private static void news(String code) {
        for (String row : code.split("\n")) {
            if (row.contains("new ")) {
                boolean isField = row.matches("\\s+(private )?final .* = new .*;");
                boolean inConstructor = row.matches("\\s+(images|sheets)\\[k\\] = new (Line|Sheet)\\(\\);");
                C.that("12 a call makes no object: " + row.trim(), isField || inConstructor);
            }
        }
    }

    private static void lengths(String code) {
        int from = -1;
        String indent = "";
        String[] rows = code.split("\n");
        for (int i = 0; i < rows.length; i++) {
            if (rows[i].length() > 120) {
                C.that("a row is too long: " + (i + 1), false);
            }
            Matcher m = Pattern.compile("^( {4}| {8})\\S[^=]*\\) \\{$").matcher(rows[i]);
            if (from < 0 && m.find()) {
                from = i;
                indent = m.group(1);
            } else if (from >= 0 && rows[i].equals(indent + "}")) {
                C.that("11 length of the method at " + (from + 1), i - from < 60);
                from = -1;
            }
        }
    }
}
