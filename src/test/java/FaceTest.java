import java.io.IOException;
import java.lang.reflect.Constructor;
import java.lang.reflect.Field;
import java.lang.reflect.Method;
import java.lang.reflect.Modifier;
import java.nio.file.Files;
import java.nio.file.Path;
import java.util.Set;
import java.util.TreeSet;

/** The public face, and the rules of LANGUAGE.md that can be seen without a compiler of one's own. */
public final class FaceTest {
    private static final Checks CHECKS = new Checks();
    private static final String[] FACE = {"type 1", "wipe 0", "fault 0", "ring 0", "anew 3", "held 4", "read 1",
        "lump 4", "aside 1", "lumpIs 2", "ringIs 2", "can 2", "cells 4", "earlier 5", "ways 0", "stones 0", "best 2",
        "may 1", "sure 0", "pressed 1", "empty 0", "leftOut 0", "joined 2", "least 0", "ones 1", "near 2", "copyOf 2",
        "shut 3", "gap 1", "clean 0", "sheet 3", "lose 1", "put 4", "get 3", "copy 5", "write 1", "count 1",
        "digest 0"};
    private static final String[] FORBIDDEN = {"throw", "try", "catch", "synchronized", "assert", "import", "package",
        "->", "::", "Exact(", "Random", "Thread", "nanoTime", "currentTimeMillis", "hashCode", "toString", "instanceof",
        "lambda", "protected", "static {"};
    private static final int MOST_LINES = 60;

    public static void main(String[] args) throws IOException {
        constants();
        methods();
        nestedClasses();
        source();
        CHECKS.finish();
    }

    private static void constants() {
        CHECKS.due("NONE", ClaySeals.NONE, -1);
        CHECKS.due("BAD", ClaySeals.BAD, -2);
        CHECKS.due("NOT", ClaySeals.NOT, -3);
        CHECKS.due("FULL", ClaySeals.FULL, -4);
        Set<String> seen = new TreeSet<>();
        for (Field f : ClaySeals.class.getDeclaredFields()) {
            if (!Modifier.isPrivate(f.getModifiers())) {
                seen.add(f.getName());
            }
            if (Modifier.isStatic(f.getModifiers())) {
                CHECKS.due(f.getName() + " is final", Modifier.isFinal(f.getModifiers()) ? 1 : 0, 1);
            }
        }
        CHECKS.due("fields that can be seen: " + seen, seen.equals(Set.of("NONE", "BAD", "NOT", "FULL")) ? 1 : 0, 1);
    }

    private static void methods() {
        CHECKS.due("the class is public and final",
            ClaySeals.class.getModifiers() & (Modifier.PUBLIC | Modifier.FINAL), Modifier.PUBLIC | Modifier.FINAL);
        Constructor<?>[] made = ClaySeals.class.getDeclaredConstructors();
        CHECKS.due("one constructor", made.length, 1);
        CHECKS.due("a public one without parameters",
            made[0].getParameterCount() == 0 && Modifier.isPublic(made[0].getModifiers()) ? 1 : 0, 1);
        Set<String> seen = new TreeSet<>();
        for (Method m : ClaySeals.class.getDeclaredMethods()) {
            if (!Modifier.isPrivate(m.getModifiers())) {
                CHECKS.due(m.getName() + " is public", Modifier.isPublic(m.getModifiers()) ? 1 : 0, 1);
                seen.add(m.getName() + " " + m.getParameterCount());
                Class<?> answer = m.getName().equals("digest") ? long.class : int.class;
                CHECKS.due(m.getName() + " answers " + answer, m.getReturnType() == answer ? 1 : 0, 1);
            }
        }
        CHECKS.due("methods that can be seen: " + seen, seen.equals(new TreeSet<>(Set.of(FACE))) ? 1 : 0, 1);
    }

    private static void nestedClasses() {
        Set<String> face = new TreeSet<>();
        for (String one : FACE) {
            face.add(one.substring(0, one.indexOf(' ')));
        }
        Class<?>[] nested = ClaySeals.class.getDeclaredClasses();
        CHECKS.due("at most twelve classes", nested.length <= 11 ? 1 : 0, 1);
        for (Class<?> c : nested) {
            int is = c.getModifiers();
            CHECKS.due(c + " is static and not seen",
                Modifier.isStatic(is) && !Modifier.isPublic(is) && !Modifier.isProtected(is) ? 1 : 0, 1);
            privateNames(c, face);
            int fields = 0;
            for (Field f : c.getDeclaredFields()) {
                fields += Modifier.isStatic(f.getModifiers()) ? 0 : 1;
            }
            CHECKS.due(c + " has at most twenty fields", fields <= 20 ? 1 : 0, 1);
        }
        for (Method m : ClaySeals.class.getDeclaredMethods()) {
            if (Modifier.isPrivate(m.getModifiers())) {
                CHECKS.due(m + " has a name of its own", face.contains(m.getName()) ? 1 : 0, 0);
            }
        }
    }

    private static void privateNames(Class<?> c, Set<String> face) {
        for (Method m : c.getDeclaredMethods()) {
            CHECKS.due(m + " has a name of its own", face.contains(m.getName()) ? 1 : 0, 0);
            CHECKS.due(m + " has at most seven parameters", m.getParameterCount() <= 7 ? 1 : 0, 1);
        }
    }

    private static void source() throws IOException {
        String text = Files.readString(Path.of("src/main/java/ClaySeals.java"));
        String code = text.replaceAll("(?s)/\\*.*?\\*/", "").replaceAll("//[^\n]*", "");
        for (String word : FORBIDDEN) {
            boolean isWord = Character.isLetter(word.charAt(0)) && Character.isLetter(word.charAt(word.length() - 1));
            boolean has = isWord ? code.matches("(?s).*\\b" + word + "\\b.*") : code.contains(word);
            CHECKS.due("the source has " + word, has ? 1 : 0, 0);
        }
        int plain = 0;
        for (char c : text.toCharArray()) {
            plain += c > 126 || c < 32 && c != '\n' ? 1 : 0;
        }
        CHECKS.due("signs of the source that are not plain", plain, 0);
        int begun = 0;
        int number = 0;
        for (String line : text.split("\n")) {
            number++;
            if (line.matches(" {4}( {4})?[a-z][^=;]*\\(.*\\{")) {
                begun = number;
            } else if (line.matches(" {4}( {4})?\\}")) {
                CHECKS.due("the method at line " + begun + " is short", number - begun <= MOST_LINES ? 1 : 0, 1);
                begun = number;
            }
        }
    }
}
