import java.io.IOException;
import java.lang.reflect.InvocationTargetException;
import java.lang.reflect.Method;
import java.nio.file.Files;
import java.nio.file.Path;
import java.util.ArrayList;
import java.util.List;

/**
 * Holds the program to sentences of DOC.md, one after the other. A call is told as a text ("held(0, 8, 0, 0)";
 * LEAST and MOST are the least and the greatest int), so that what is printed is what was called.
 */
final class Edges {
    static final int NONE = -1, BAD = -2, NOT = -3, FULL = -4;
    static final int NULL = -11, INDEX = -12, CAST = -13, STORE = -14, SIZE = -15;
    static final int LEAST = Integer.MIN_VALUE, MOST = Integer.MAX_VALUE;
    static final Path DOCUMENT = Path.of("../shared/DOC.md");

    private final Checks checks = new Checks();
    private final String document;
    private String sentence = "";
    private int answers = 1;

    Edges() {
        document = textOf(DOCUMENT);
    }

    static String textOf(Path file) {
        try {
            return Files.readString(file);
        } catch (IOException e) {
            throw new IllegalStateException("cannot read " + file, e);
        }
    }

    /** By which sentence the answers from here on are due: as it stands in the document. */
    void says(String words) {
        checks.due("an answer by: " + sentence, answers > 0 ? 1 : 0, 1);
        checks.due("the document says: " + words, document.contains(words) ? 1 : 0, 1);
        sentence = words;
        answers = 0;
    }

    void finish() {
        says("");
        checks.finish();
    }

    /** A new object after some acts: calls that are not refused, or "ring ..", "lump ..", "line ..". */
    static ClaySeals with(String... acts) {
        ClaySeals x = new ClaySeals();
        and(x, acts);
        return x;
    }

    /** An act with " x8" behind it is done eight times. */
    static void and(ClaySeals x, String... acts) {
        for (String act : acts) {
            int times = 1;
            String once = act;
            if (act.matches(".* x\\d+")) {
                int at = act.lastIndexOf(" x");
                times = Integer.parseInt(act.substring(at + 2));
                once = act.substring(0, at);
            }
            for (int k = 0; k < times; k++) {
                if (act(x, once) < 0) {
                    throw new IllegalStateException(once + " was refused");
                }
            }
        }
    }

    /** "ring TEXT", "lump TEXT from to", "lump TEXT from to back door", "line TEXT", a call, or "try " and a call. */
    private static long act(ClaySeals x, String act) {
        String[] words = act.split(" ");
        if (words[0].equals("try")) {
            answer(x, act.substring(4));
            return 0;
        }
        if (act.endsWith(")")) {
            return answer(x, act);
        }
        Checks.line(x, words.length > 1 ? words[1] : "");
        switch (words[0]) {
            case "line":
                return 0;
            case "ring":
                return x.ring();
            case "lump":
                int back = words.length > 4 ? Integer.parseInt(words[4]) : 0;
                int door = words.length > 5 ? Integer.parseInt(words[5]) : 0;
                return x.lump(Integer.parseInt(words[2]), Integer.parseInt(words[3]), back, door);
            default:
                throw new IllegalStateException("no act: " + act);
        }
    }

    static long answer(ClaySeals x, String call) {
        int open = call.indexOf('(');
        String inside = call.substring(open + 1, call.length() - 1).trim();
        String[] words = inside.isEmpty() ? new String[0] : inside.split(", *");
        Object[] given = new Object[words.length];
        for (int k = 0; k < words.length; k++) {
            given[k] = words[k].equals("LEAST") ? LEAST : words[k].equals("MOST") ? MOST : Integer.parseInt(words[k]);
        }
        for (Method m : ClaySeals.class.getDeclaredMethods()) {
            if (m.getName().equals(call.substring(0, open)) && m.getParameterCount() == given.length) {
                try {
                    return ((Number) m.invoke(x, given)).longValue();
                } catch (IllegalAccessException | InvocationTargetException e) {
                    throw new IllegalStateException(call + " threw", e);
                }
            }
        }
        throw new IllegalStateException("no call: " + call);
    }

    void due(ClaySeals x, String call, long want) {
        answers++;
        checks.due("\"" + sentence + "\" " + call, answer(x, call), want);
    }

    /** One answer for several calls. */
    void dueOfAll(ClaySeals x, long want, String... calls) {
        for (String call : calls) {
            due(x, call, want);
        }
    }

    /** The same call for several things: "ones(%)" of 0, 1, 2 .. */
    void dueOfEach(ClaySeals x, String call, long... want) {
        for (int k = 0; k < want.length; k++) {
            due(x, call.replace("%", "" + k), want[k]);
        }
    }

    /** The FAULT of a LINE; the LINE stays as it is, and a LUMP can be made of it only if there is none. */
    void fault(String line, int want) {
        ClaySeals x = with("line " + line);
        due(x, "fault()", want);
        due(x, "count(5)", line.length());
        due(x, "lump(0, 0, 0, 0)", want == NONE ? 0 : NOT);
    }

    /** Each call is refused after the acts, and changes nothing. */
    void refused(String[] acts, long want, String... calls) {
        for (String call : calls) {
            changesNothing(acts, call, want, want <= NULL && want >= SIZE ? -10 - want : 0);
        }
    }

    /** As refused(), of calls that answer the least int, whatever the FINDING is. */
    void found(String[] acts, int finding, String... calls) {
        for (String call : calls) {
            changesNothing(acts, call, LEAST, finding);
        }
    }

    /** Held against an object on which the call was not made; a FINDING (0: none) changes count(8) alone. */
    private void changesNothing(String[] acts, String call, long want, long finding) {
        ClaySeals touched = with(acts);
        ClaySeals other = with(acts);
        due(touched, call, want);
        checks.due("\"" + sentence + "\" " + call + ", then count(8)", touched.count(8),
            finding == 0 ? other.count(8) : finding);
        checks.due("\"" + sentence + "\" " + call + ", then all is as it was", seen(touched).equals(seen(other)) ? 1 : 0, 1);
    }

    /** All that can be seen of an object. It is of no use behind it. */
    private static List<Long> seen(ClaySeals x) {
        List<Long> all = new ArrayList<>();
        all.add(x.digest());
        for (int lump = 0; lump < 12; lump++) {
            all.add((long) x.pressed(lump));
            all.add((long) x.ones(lump));
            for (int ring = 0; ring < 6; ring++) {
                all.add((long) x.can(lump, ring));
            }
        }
        for (int s = 0; s < 4; s++) {
            for (int form = 0; form < 3; form++) {
                for (int i = 0; i < 48; i++) {
                    all.add((long) x.get(s, form, i));
                }
            }
            all.add((long) x.lose(s));
        }
        addLine(x, all);
        return all;
    }

    /** What stands in the LINE shows as a PICTURE, if signs can make it whole. */
    private static void addLine(ClaySeals x, List<Long> all) {
        for (int k = 0; k < 16 && x.fault() == x.count(5); k++) {
            x.type('#');
        }
        all.add((long) x.fault());
        int lump = x.lump(0, 0, 0, 0);
        all.add((long) x.lumpIs(lump, 0));
        all.add((long) x.lumpIs(lump, 1));
    }
}
