/** Counts the calls whose answer is not the one that is due, and prints each of them. */
final class Checks {
    private int right = 0;
    private int wrong = 0;

    void due(String call, long got, long want) {
        if (got == want) {
            right++;
        } else {
            wrong++;
            System.out.println(call + " answered " + got + ", due is " + want);
        }
    }

    /** Tells how it went and ends the program with 1 if an answer was wrong. */
    void finish() {
        System.out.println(right + " answers as due, " + wrong + " not");
        if (wrong != 0 || right == 0) {
            System.exit(1);
        }
    }

    /** The same call, again and again, must not change anything that digest() tells. */
    void refused(ClaySeals x, String call, java.util.function.IntSupplier act, int want) {
        long before = x.digest();
        int latest = x.count(8);
        due(call, act.getAsInt(), want);
        due(call + ", then digest()", x.digest(), before);
        if (want >= -4) {
            due(call + ", then count(8)", x.count(8), latest);
        } else {
            due(call + ", then count(8)", x.count(8), -10 - want);
        }
    }

    static void line(ClaySeals x, String text) {
        x.wipe();
        for (int i = 0; i < text.length(); i++) {
            x.type(text.charAt(i));
        }
    }

    static int ring(ClaySeals x, String text) {
        line(x, text);
        return x.ring();
    }

    static int lump(ClaySeals x, String text, int from, int to) {
        return lump(x, text, from, to, 0, 0);
    }

    static int lump(ClaySeals x, String text, int from, int to, int back, int door) {
        line(x, text);
        return x.lump(from, to, back, door);
    }
}
