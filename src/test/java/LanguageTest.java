import java.io.IOException;
import java.lang.reflect.Field;
import java.lang.reflect.Method;
import java.lang.reflect.Modifier;
import java.nio.file.Files;
import java.nio.file.Path;
import java.util.List;
import java.util.Map;
import java.util.Set;
import java.util.TreeMap;
import java.util.TreeSet;
import java.util.regex.Matcher;
import java.util.regex.Pattern;

/** The rules of LANGUAGE.md that a program can see, and the document's face. */
public final class LanguageTest {
    private static final Checks CHECKS = new Checks();
    private static final Map<String, Integer> FACE = new TreeMap<>(Map.ofEntries(
        Map.entry("write", 1), Map.entry("wipe", 0), Map.entry("fault", 0), Map.entry("lay", 0), Map.entry("feed", 3),
        Map.entry("room", 2), Map.entry("tell", 2), Map.entry("clash", 3), Map.entry("put", 3), Map.entry("slot", 1),
        Map.entry("undo", 0), Map.entry("queue", 3), Map.entry("link", 2), Map.entry("drop", 2), Map.entry("goes", 1),
        Map.entry("goal", 2), Map.entry("ahead", 2), Map.entry("without", 1), Map.entry("worst", 1),
        Map.entry("drawn", 3), Map.entry("count", 1)));
    private static final List<String> FORBIDDEN = List.of("throw", "throws", "try", "catch", "synchronized", "assert",
        "import static", "package", "protected", "->", "::", "hashCode", "Exact", "Random", "System.out", "nanoTime",
        "currentTimeMillis", "Thread", "NaN");

    public static void main(String[] args) throws IOException {
        face();
        nested();
        String source = Files.readString(Path.of("src/main/java/DropQueues.java"));
        words(source);
        lengths(source);
        CHECKS.end("LanguageTest");
    }

    private static void face() {
        Class<?> c = DropQueues.class;
        CHECKS.due("class is public and final", c.getModifiers(), Modifier.PUBLIC | Modifier.FINAL);
        CHECKS.due("constructors", c.getDeclaredConstructors().length, 1);
        CHECKS.due("public constructors", c.getConstructors().length, 1);
        Set<String> seen = new TreeSet<>();
        for (Method m : c.getDeclaredMethods()) {
            if (Modifier.isPublic(m.getModifiers())) {
                CHECKS.holds(m + " is of the face, once", FACE.containsKey(m.getName()) && seen.add(m.getName()));
                CHECKS.due(m.getName() + " parameters", m.getParameterCount(), FACE.getOrDefault(m.getName(), -1));
                CHECKS.holds(m + " answers int", m.getReturnType() == int.class);
            } else {
                CHECKS.holds(m + " is private", Modifier.isPrivate(m.getModifiers()));
            }
        }
        CHECKS.holds("all methods of the face are there", seen.equals(FACE.keySet()));
        Set<String> constants = new TreeSet<>();
        for (Field f : c.getDeclaredFields()) {
            if (Modifier.isPublic(f.getModifiers())) {
                constants.add(f.getName());
            } else {
                CHECKS.holds(f + " is private", Modifier.isPrivate(f.getModifiers()));
            }
            CHECKS.holds(f + " is final if static", !Modifier.isStatic(f.getModifiers()) || Modifier.isFinal(f.getModifiers()));
        }
        CHECKS.holds("the constants", constants.equals(Set.of("BAD", "NO", "FULL", "NONE")));
    }

    private static void nested() {
        Class<?>[] classes = DropQueues.class.getDeclaredClasses();
        CHECKS.holds("at most twelve classes", classes.length < 12);
        for (Class<?> c : classes) {
            CHECKS.holds(c + " is static", Modifier.isStatic(c.getModifiers()));
            CHECKS.holds(c + " is not public", !Modifier.isPublic(c.getModifiers()));
            CHECKS.holds(c + " has some twenty fields at most", c.getDeclaredFields().length <= 20);
            for (Method m : c.getDeclaredMethods()) {
                CHECKS.holds(m + " has a name of its own", !FACE.containsKey(m.getName()));
                CHECKS.holds(m + " has seven parameters at most", m.getParameterCount() <= 7);
            }
            for (Field f : c.getDeclaredFields()) {
                CHECKS.holds(f + " is no static state", !Modifier.isStatic(f.getModifiers()));
            }
        }
    }

    private static void words(String source) {
        for (String word : FORBIDDEN) {
            String pattern = Character.isLetter(word.charAt(0)) ? "\\b" + word + "\\b" : Pattern.quote(word);
            CHECKS.holds("no " + word, !Pattern.compile(pattern).matcher(source).find());
        }
        Matcher imports = Pattern.compile("^import (.*);", Pattern.MULTILINE).matcher(source);
        while (imports.find()) {
            CHECKS.holds("import of " + imports.group(1), imports.group(1).equals("java.util.Arrays"));
        }
        CHECKS.holds("signs of ASCII alone", source.chars().allMatch(c -> c == '\n' || c >= 32 && c < 127));
    }

    private static void lengths(String source) {
        Pattern head = Pattern.compile("^( +)(public|private|static|int|void|boolean|long).*\\) \\{$");
        String[] lines = source.split("\n");
        for (int k = 0; k < lines.length; k++) {
            Matcher m = head.matcher(lines[k]);
            if (m.matches()) {
                int end = k;
                while (!lines[end].equals(m.group(1) + "}")) {
                    end++;
                }
                CHECKS.holds("sixty lines at most:" + lines[k], end - k < 60);
            }
        }
    }
}
