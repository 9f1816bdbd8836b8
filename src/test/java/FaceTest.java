import java.io.IOException;
import java.lang.reflect.Constructor;
import java.lang.reflect.Field;
import java.lang.reflect.Method;
import java.lang.reflect.Modifier;
import java.nio.file.Files;
import java.nio.file.Path;
import java.util.Map;
import java.util.Set;
import java.util.TreeMap;
import java.util.TreeSet;
import java.util.regex.Matcher;
import java.util.regex.Pattern;

/** The public face, and the rules of LANGUAGE.md that can be seen without a compiler of one's own. */
public final class FaceTest {
    private static final Checks CHECKS = new Checks();
    private static final String[] FACE = {"type 1", "wipe 0", "fault 0", "ring 0", "anew 3", "held 4", "read 1",
        "lump 4", "aside 1", "lumpIs 2", "ringIs 2", "can 2", "cells 4", "earlier 5", "ways 0", "stones 0", "best 2",
        "may 1", "sure 0", "pressed 1", "empty 0", "leftOut 0", "joined 2", "least 0", "ones 1", "near 2", "copyOf 2",
        "shut 3", "gap 1", "clean 0", "sheet 3", "lose 1", "put 4", "get 3", "copy 5", "write 1", "count 1",
        "digest 0"};
    private static final String[] FORBIDDEN = {"throw", "try", "catch", "synchronized", "assert", "import", "package",
        "->", "::", "Exact(", "Random", "Thread", "nanoTime", "currentTimeMillis", "hashCode", "toString", "instanceof",
        "lambda", "protected", "static {"};
    private static final String LIBRARY = "(Integer|Long|Math)\\.\\w+(?<!Exact)|System\\.arraycopy|Arrays\\.(copyOf|copyOfRange|fill)";
    private static final int MOST_LINES = 60;
    private static final int MOST_DEEP = 8;

    public static void main(String[] args) throws IOException {
        constants();
        methods();
        nestedClasses();
        source();
        library();
        callsInCalls();
        CHECKS.finish();
    }

    private static void constants() {
        CHECKS.due("NONE", ClaySeals.NONE, -1);
        CHECKS.due("BAD", ClaySeals.BAD, -2);
        CHECKS.due("NOT", ClaySeals.NOT, -3);
        CHECKS.due("FULL", ClaySeals.FULL, -4);
        Set<String> seen = new TreeSet<>();
        for (Field f : ClaySeals.class.getDeclaredFields()) {
            if (!Modifier.isPrivate(f.getModifiers())) {
                seen.add(f.getName());
            }
            if (Modifier.isStatic(f.getModifiers())) {
                CHECKS.due(f.getName() + " is final", Modifier.isFinal(f.getModifiers()) ? 1 : 0, 1);
            }
        }
        CHECKS.due("fields that can be seen: " + seen, seen.equals(Set.of("NONE", "BAD", "NOT", "FULL")) ? 1 : 0, 1);
    }

    private static void methods() {
        CHECKS.due("the class is public and final",
            ClaySeals.class.getModifiers() & (Modifier.PUBLIC | Modifier.FINAL), Modifier.PUBLIC | Modifier.FINAL);
        Constructor<?>[] made = ClaySeals.class.getDeclaredConstructors();
        CHECKS.due("one constructor", made.length, 1);
        CHECKS.due("a public one without parameters",
            made[0].getParameterCount() == 0 && Modifier.isPublic(made[0].getModifiers()) ? 1 : 0, 1);
        Set<String> seen = new TreeSet<>();
        for (Method m : ClaySeals.class.getDeclaredMethods()) {
            if (!Modifier.isPrivate(m.getModifiers())) {
                CHECKS.due(m.getName() + " is public", Modifier.isPublic(m.getModifiers()) ? 1 : 0, 1);
                seen.add(m.getName() + " " + m.getParameterCount());
                Class<?> answer = m.getName().equals("digest") ? long.class : int.class;
                CHECKS.due(m.getName() + " answers " + answer, m.getReturnType() == answer ? 1 : 0, 1);
            }
        }
        CHECKS.due("methods that can be seen: " + seen, seen.equals(new TreeSet<>(Set.of(FACE))) ? 1 : 0, 1);
    }

    private static void nestedClasses() {
        Set<String> face = new TreeSet<>();
        for (String one : FACE) {
            face.add(one.substring(0, one.indexOf(' ')));
        }
        Class<?>[] nested = ClaySeals.class.getDeclaredClasses();
        CHECKS.due("at most twelve classes", nested.length <= 11 ? 1 : 0, 1);
        for (Class<?> c : nested) {
            int is = c.getModifiers();
            CHECKS.due(c + " is static and not seen",
                Modifier.isStatic(is) && !Modifier.isPublic(is) && !Modifier.isProtected(is) ? 1 : 0, 1);
            privateNames(c, face);
            int fields = 0;
            for (Field f : c.getDeclaredFields()) {
                fields += Modifier.isStatic(f.getModifiers()) ? 0 : 1;
            }
            CHECKS.due(c + " has at most twenty fields", fields <= 20 ? 1 : 0, 1);
        }
        for (Method m : ClaySeals.class.getDeclaredMethods()) {
            if (Modifier.isPrivate(m.getModifiers())) {
                CHECKS.due(m + " has a name of its own", face.contains(m.getName()) ? 1 : 0, 0);
            }
        }
    }

    private static void privateNames(Class<?> c, Set<String> face) {
        for (Method m : c.getDeclaredMethods()) {
            CHECKS.due(m + " has a name of its own", face.contains(m.getName()) ? 1 : 0, 0);
            CHECKS.due(m + " has at most seven parameters", m.getParameterCount() <= 7 ? 1 : 0, 1);
        }
    }

    private static void source() throws IOException {
        String text = Files.readString(Path.of("src/main/java/ClaySeals.java"));
        String code = code();
        for (String word : FORBIDDEN) {
            boolean isWord = Character.isLetter(word.charAt(0)) && Character.isLetter(word.charAt(word.length() - 1));
            boolean has = isWord ? code.matches("(?s).*\\b" + word + "\\b.*") : code.contains(word);
            CHECKS.due("the source has " + word, has ? 1 : 0, 0);
        }
        int plain = 0;
        for (char c : text.toCharArray()) {
            plain += c > 126 || c < 32 && c != '\n' ? 1 : 0;
        }
        CHECKS.due("signs of the source that are not plain", plain, 0);
        int begun = 0;
        int number = 0;
        for (String line : text.split("\n")) {
            number++;
            if (line.matches(" {4}( {4})?[a-z][^=;]*\\(.*\\{")) {
                begun = number;
            } else if (line.matches(" {4}( {4})?\\}")) {
                CHECKS.due("the method at line " + begun + " is short", number - begun <= MOST_LINES ? 1 : 0, 1);
                begun = number;
            }
        }
    }

    private static String code() throws IOException {
        String text = Files.readString(Path.of("src/main/java/ClaySeals.java"));
        return text.replaceAll("(?s)/\\*.*?\\*/", "").replaceAll("//[^\n]*", "");
    }

    private static void library() throws IOException {
        Matcher used = Pattern.compile("\\b(Integer|Long|Short|Byte|Math|System|Arrays|String\\w*|List|Character)\\b(\\.\\w+)?")
            .matcher(code());
        while (used.find()) {
            CHECKS.due(used.group() + " is of the library that may be used", used.group().matches(LIBRARY) ? 1 : 0, 1);
        }
    }

    /** By names alone: methods of one name count as one, so a row of calls is rather told too long than too short. */
    private static void callsInCalls() throws IOException {
        Map<String, String> bodies = new TreeMap<>();
        Matcher method = Pattern.compile("(?ms)^( {4}| {8})(?:public |private )(?:static )?(?:[\\w\\[\\]]+ )?(\\w+)\\([^)]*\\) \\{\n(.*?)^\\1\\}")
            .matcher(code());
        while (method.find()) {
            bodies.merge(method.group(2), method.group(3), String::concat);
        }
        CHECKS.due("methods are found", bodies.size() > FACE.length ? 1 : 0, 1);
        Map<String, Set<String>> calls = new TreeMap<>();
        bodies.forEach((name, body) -> {
            Set<String> called = new TreeSet<>();
            Matcher call = Pattern.compile("(?<![\\w.])((?:\\w+\\.)*)(\\w+)\\(").matcher(body);
            while (call.find()) {
                if (bodies.containsKey(call.group(2))) {
                    called.add(call.group(2));
                }
            }
            calls.put(name, called);
        });
        for (String name : bodies.keySet()) {
            int deep = depth(name, calls, new TreeSet<>());
            CHECKS.due(name + " goes " + deep + " calls deep", deep <= MOST_DEEP ? 1 : 0, 1);
        }
        CHECKS.due("digest goes deepest", depth("digest", calls, new TreeSet<>()) >= 6 ? 1 : 0, 1);
    }

    private static int depth(String name, Map<String, Set<String>> calls, Set<String> open) {
        int deepest = 0;
        open.add(name);
        for (String called : calls.get(name)) {
            if (!open.contains(called)) {
                deepest = Math.max(deepest, depth(called, calls, open));
            }
        }
        open.remove(name);
        return 1 + deepest;
    }
}
