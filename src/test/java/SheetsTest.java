/** Promises 32 to 39: sheet, lose, put, get, copy, write, count, digest. */
public final class SheetsTest {
    private static final Checks CHECKS = new Checks();
    private static final int LEAST = Integer.MIN_VALUE;
    private static final int MOST = Integer.MAX_VALUE;

    public static void main(String[] args) {
        sheets();
        sheetsRefused();
        losing();
        putting();
        puttingRefused();
        gettingRefused();
        copying();
        copyingOverlapped();
        copyingRefused();
        copyingAtTheEdges();
        writing();
        writingRefused();
        counting();
        latestFinding();
        digest();
        digestHasNoSheets();
        CHECKS.finish();
    }

    private static void sheets() {
        ClaySeals x = new ClaySeals();
        for (int form = 0; form < 3; form++) {
            for (int s = 0; s < 4; s++) {
                CHECKS.due("sheet(" + s + ", " + form + ", 0)", x.sheet(s, form, 0), 0);
                CHECKS.due("no item 0", x.put(s, form, 0, 1), -12);
                CHECKS.due("sheet(" + s + ", " + form + ", 48)", x.sheet(s, form, 48), 48);
                CHECKS.due("item 47 is 0", x.get(s, form, 47), 0);
                CHECKS.due("put() item 47", x.put(s, form, 47, 9), 1);
                CHECKS.due("item 47", x.get(s, form, 47), 9);
                CHECKS.due("no item 48", x.put(s, form, 48, 1), -12);
                CHECKS.due("a new row", x.sheet(s, form, 48), 48);
                CHECKS.due("item 47 is 0 again", x.get(s, form, 47), 0);
                x.put(s, form, 0, 5);
                CHECKS.due("a shorter row", x.sheet(s, form, 1), 1);
                CHECKS.due("item 0 is 0", x.get(s, form, 0), 0);
                CHECKS.due("no item 1", x.put(s, form, 1, 1), -12);
            }
        }
    }

    private static void sheetsRefused() {
        ClaySeals x = new ClaySeals();
        x.sheet(0, 1, 3);
        x.put(0, 1, 2, 7);
        int[][] bad = {{-1, 0, 0}, {4, 0, 0}, {LEAST, 0, 0}, {MOST, 0, 0}, {0, -1, 0}, {0, 3, 0}, {0, LEAST, 0},
            {0, MOST, 0}, {0, 0, 49}, {0, 0, MOST}, {4, 0, -1}, {0, 3, -1}, {-1, 3, LEAST}};
        for (int[] b : bad) {
            CHECKS.refused(x, "sheet(" + b[0] + ", " + b[1] + ", " + b[2] + ")", () -> x.sheet(b[0], b[1], b[2]), -2);
        }
        CHECKS.refused(x, "sheet(0, 0, -1)", () -> x.sheet(0, 0, -1), -15);
        CHECKS.refused(x, "sheet(0, 2, least)", () -> x.sheet(0, 2, LEAST), -15);
        CHECKS.due("the row is as it was", x.get(0, 1, 2), 7);
        CHECKS.refused(x, "sheet(1, 0, -1)", () -> x.sheet(1, 0, -1), -15);
        CHECKS.due("a SHEET that is LOST is so still", x.lose(1), -11);
    }

    private static void losing() {
        ClaySeals x = new ClaySeals();
        int[] bad = {-1, 4, LEAST, MOST};
        for (int s : bad) {
            CHECKS.refused(x, "lose(" + s + ")", () -> x.lose(s), -2);
        }
        x.sheet(0, 0, 0);
        x.sheet(1, 1, 48);
        x.sheet(2, 2, 7);
        CHECKS.due("lose(0)", x.lose(0), 0);
        CHECKS.due("lose(1)", x.lose(1), 48);
        CHECKS.due("lose(2)", x.lose(2), 7);
        for (int s = 0; s < 4; s++) {
            int lost = s;
            CHECKS.refused(x, "lose(" + s + ") of one LOST", () -> x.lose(lost), -11);
        }
        CHECKS.due("sheet(1, 1, 2)", x.sheet(1, 1, 2), 2);
        CHECKS.due("lose(1) again", x.lose(1), 2);
    }

    private static void putting() {
        ClaySeals x = new ClaySeals();
        int[] values = {0, 1, -1, 127, 128, -128, -129, 255, 256, 32767, 32768, -32768, -32769, 65535, 65536, LEAST, MOST};
        for (int form = 0; form < 3; form++) {
            x.sheet(form, form, values.length);
            for (int i = 0; i < values.length; i++) {
                CHECKS.due("put()", x.put(form, form, i, values[i]), 1);
            }
            for (int i = 0; i < values.length; i++) {
                int v = values[i];
                int want = form == 0 ? v << 24 >> 24 : form == 1 ? v << 16 >> 16 : v;
                CHECKS.due("get() of " + v + " in FORM " + form, x.get(form, form, i), want);
            }
        }
        CHECKS.due("count(8)", x.count(8), 0);
    }

    private static void puttingRefused() {
        ClaySeals x = new ClaySeals();
        x.sheet(0, 0, 3);
        x.sheet(1, 1, 3);
        x.sheet(2, 2, 3);
        int[][] bad = {{-1, 0}, {4, 0}, {0, -1}, {0, 3}, {LEAST, 0}, {MOST, 0}, {0, LEAST}, {0, MOST}, {3, 3}};
        for (int[] b : bad) {
            CHECKS.refused(x, "put(" + b[0] + ", " + b[1] + ", ..)", () -> x.put(b[0], b[1], 0, 1), -2);
            CHECKS.due("get(" + b[0] + ", " + b[1] + ", 0)", x.get(b[0], b[1], 0), LEAST);
        }
        CHECKS.refused(x, "put(3, 0, 0, 1) of one LOST", () -> x.put(3, 0, 0, 1), -11);
        CHECKS.refused(x, "put(3, 1, 9, 1): NULL goes ahead", () -> x.put(3, 1, 9, 1), -11);
        for (int s = 0; s < 3; s++) {
            for (int form = 0; form < 3; form++) {
                int sheet = s;
                int as = form;
                int[] none = {-1, 3, LEAST, MOST, 48};
                for (int i : none) {
                    CHECKS.refused(x, "put(" + s + ", " + form + ", " + i + ", 1): CAST goes ahead of INDEX",
                        () -> x.put(sheet, as, i, 1), s == form ? -12 : -13);
                }
                CHECKS.due("put(" + s + ", " + form + ", 0, 1)", x.put(s, form, 0, 1), s == form ? 1 : -13);
            }
        }
    }

    private static void gettingRefused() {
        ClaySeals x = new ClaySeals();
        x.sheet(0, 0, 3);
        for (int i = 0; i < 3; i++) {
            x.put(0, 0, i, i + 1);
        }
        int[][] due = {{0, 0, 0, 1, 0}, {0, 0, 3, LEAST, 2}, {0, 0, 2, 3, 2}, {0, 1, 0, LEAST, 3}, {0, 2, 3, LEAST, 3},
            {1, 0, 0, LEAST, 1}, {0, 0, -1, LEAST, 2}, {3, 2, -1, LEAST, 1}, {4, 0, 0, LEAST, 1}, {-1, 0, 0, LEAST, 1},
            {0, 3, 0, LEAST, 1}, {0, -1, 0, LEAST, 1}, {0, 0, MOST, LEAST, 2}, {0, 0, LEAST, LEAST, 2},
            {1, 0, 0, LEAST, 1}, {0, 0, 1, 2, 1}};
        for (int[] d : due) {
            CHECKS.due("get(" + d[0] + ", " + d[1] + ", " + d[2] + ")", x.get(d[0], d[1], d[2]), d[3]);
            CHECKS.due("count(8) after it", x.count(8), d[4]);
        }
    }

    private static void fill(ClaySeals x, int s, int form, int first, int n) {
        x.sheet(s, form, n);
        for (int i = 0; i < n; i++) {
            x.put(s, form, i, first + i);
        }
    }

    private static void items(ClaySeals x, String of, int s, int form, int... want) {
        for (int i = 0; i < want.length; i++) {
            CHECKS.due(of + ": item " + i, x.get(s, form, i), want[i]);
        }
    }

    private static void copying() {
        for (int form = 0; form < 3; form++) {
            ClaySeals x = new ClaySeals();
            fill(x, 0, form, 10, 5);
            fill(x, 3, form, 20, 4);
            CHECKS.due("copy(0, 1, 3, 2, 2)", x.copy(0, 1, 3, 2, 2), 1);
            items(x, "copied", 3, form, 20, 21, 11, 12);
            items(x, "from", 0, form, 10, 11, 12, 13, 14);
            CHECKS.due("copy(3, 0, 0, 0, 4)", x.copy(3, 0, 0, 0, 4), 1);
            items(x, "copied back", 0, form, 20, 21, 11, 12, 14);
            CHECKS.due("copy(0, 0, 3, 0, 0)", x.copy(0, 0, 3, 0, 0), 1);
            items(x, "none copied", 3, form, 20, 21, 11, 12);
        }
    }

    private static void copyingOverlapped() {
        ClaySeals x = new ClaySeals();
        fill(x, 1, 2, 0, 6);
        CHECKS.due("copy(1, 0, 1, 1, 5)", x.copy(1, 0, 1, 1, 5), 1);
        items(x, "moved on", 1, 2, 0, 0, 1, 2, 3, 4);
        CHECKS.due("copy(1, 2, 1, 0, 4)", x.copy(1, 2, 1, 0, 4), 1);
        items(x, "moved back", 1, 2, 1, 2, 3, 4, 3, 4);
        CHECKS.due("copy(1, 0, 1, 0, 6)", x.copy(1, 0, 1, 0, 6), 1);
        items(x, "moved nowhere", 1, 2, 1, 2, 3, 4, 3, 4);
    }

    private static void copyingRefused() {
        ClaySeals x = new ClaySeals();
        int[][] bad = {{-1, 0}, {4, 0}, {0, -1}, {0, 4}, {LEAST, 0}, {0, MOST}};
        for (int[] b : bad) {
            CHECKS.refused(x, "copy(" + b[0] + ", 0, " + b[1] + ", 0, 0)", () -> x.copy(b[0], 0, b[1], 0, 0), -2);
        }
        CHECKS.refused(x, "both LOST", () -> x.copy(0, 0, 1, 0, 0), -11);
        fill(x, 0, 0, 1, 3);
        CHECKS.refused(x, "the second LOST", () -> x.copy(0, 0, 1, 0, 0), -11);
        CHECKS.refused(x, "the first LOST", () -> x.copy(1, 0, 0, 0, 0), -11);
        CHECKS.refused(x, "LOST goes ahead of INDEX", () -> x.copy(1, -1, 0, 0, 0), -11);
        fill(x, 1, 1, 1, 3);
        fill(x, 2, 2, 1, 3);
        CHECKS.refused(x, "bytes to shorts", () -> x.copy(0, 0, 1, 0, 1), -14);
        CHECKS.refused(x, "shorts to bytes", () -> x.copy(1, 0, 0, 0, 1), -14);
        CHECKS.refused(x, "ints to shorts", () -> x.copy(2, 0, 1, 0, 0), -14);
        CHECKS.refused(x, "STORE goes ahead of INDEX", () -> x.copy(2, 9, 1, -1, 9), -14);
        items(x, "as they were", 0, 0, 1, 2, 3);
        items(x, "as they were", 1, 1, 1, 2, 3);
        items(x, "as they were", 2, 2, 1, 2, 3);
    }

    private static void copyingAtTheEdges() {
        ClaySeals x = new ClaySeals();
        fill(x, 0, 0, 1, 3);
        fill(x, 1, 0, 5, 5);
        int[][] wrong = {{-1, 0, 1}, {0, -1, 1}, {0, 0, -1}, {0, 0, 4}, {1, 0, 3}, {3, 0, 1}, {4, 0, 0}, {0, 6, 0},
            {0, 3, 3}, {0, 5, 1}, {LEAST, 0, 0}, {0, LEAST, 0}, {0, 0, LEAST}, {MOST, 0, 1}, {0, MOST, 1}, {0, 0, MOST},
            {1, 1, MOST}, {MOST, MOST, MOST}, {2, 0, MOST}, {-1, 0, 0}, {0, -1, 0}};
        for (int[] w : wrong) {
            CHECKS.refused(x, "copy(0, " + w[0] + ", 1, " + w[1] + ", " + w[2] + ")",
                () -> x.copy(0, w[0], 1, w[1], w[2]), -12);
        }
        items(x, "as they were", 1, 0, 5, 6, 7, 8, 9);
        int[][] right = {{3, 5, 0}, {3, 0, 0}, {0, 5, 0}, {0, 2, 3}, {2, 4, 1}};
        for (int[] r : right) {
            CHECKS.due("copy(0, " + r[0] + ", 1, " + r[1] + ", " + r[2] + ")", x.copy(0, r[0], 1, r[1], r[2]), 1);
        }
        items(x, "copied", 1, 0, 5, 6, 1, 2, 3);
        x.sheet(2, 0, 0);
        CHECKS.due("copy() of nothing to nothing", x.copy(2, 0, 2, 0, 0), 1);
        CHECKS.refused(x, "copy() of one from nothing", () -> x.copy(2, 0, 1, 0, 1), -12);
        CHECKS.refused(x, "copy() of one to nothing", () -> x.copy(1, 0, 2, 0, 1), -12);
    }

    private static void writing() {
        ClaySeals x = new ClaySeals();
        x.sheet(0, 0, 3);
        CHECKS.due("write() without LUMPS", x.write(0), 0);
        Checks.ring(x, "##.*14");
        Checks.ring(x, "#.#.*13");
        Checks.ring(x, "...........####.");
        Checks.lump(x, "#.#.*13", 0, 59);
        Checks.lump(x, "##.*14", 0, 59);
        Checks.lump(x, "?*16", 0, 59);
        Checks.lump(x, "#.#.*13", 0, 59);
        Checks.lump(x, ".....#..........", 0, 59);
        x.aside(16);
        for (int form = 0; form < 3; form++) {
            fill(x, form, form, 50, 3);
            CHECKS.due("write() to three items", x.write(form), 3);
            items(x, "written", form, form, 1, 0, 0);
            fill(x, form, form, 50, 7);
            CHECKS.due("write() to seven items", x.write(form), 5);
            items(x, "written", form, form, 1, 0, 0, 1, -1, 55, 56);
        }
        x.sheet(3, 1, 0);
        CHECKS.due("write() to no item", x.write(3), 0);
        x.aside(17);
        CHECKS.due("write() with another ASIDE", x.write(2), 5);
        items(x, "written", 2, 2, -1, 0, 0, 1, -1);
        ClaySeals y = new ClaySeals();
        for (int k = 0; k < 12; k++) {
            Checks.lump(y, "?*16", 0, 0);
        }
        y.aside(4095);
        y.sheet(0, 2, 48);
        CHECKS.due("write() of 12", y.write(0), 12);
        items(y, "all ASIDE", 0, 2, -1, -1, -1, -1, -1, -1, -1, -1, -1, -1, -1, -1, 0, 0);
    }

    private static void writingRefused() {
        ClaySeals x = new ClaySeals();
        int[] bad = {-1, 4, LEAST, MOST};
        for (int s : bad) {
            CHECKS.refused(x, "write(" + s + ")", () -> x.write(s), -2);
        }
        CHECKS.refused(x, "write(0) of one LOST", () -> x.write(0), -11);
        Checks.lump(x, "#*16", 0, 59);
        CHECKS.refused(x, "write(0): NULL goes ahead of NOT", () -> x.write(0), -11);
        x.sheet(0, 0, 5);
        x.put(0, 0, 0, 33);
        CHECKS.refused(x, "write(0) without a WAY", () -> x.write(0), -3);
        Checks.ring(x, "#*16");
        for (int k = 0; k < 8; k++) {
            Checks.lump(x, "#*16", 0, 59);
        }
        CHECKS.refused(x, "write(0) of 9", () -> x.write(0), -4);
        CHECKS.refused(x, "write(1): NULL goes ahead of FULL", () -> x.write(1), -11);
        CHECKS.due("the item is as it was", x.get(0, 0, 0), 33);
        x.aside(1);
        CHECKS.due("write(0) of 8 of 9", x.write(0), 5);
        CHECKS.due("the item", x.get(0, 0, 0), -1);
    }

    private static void counting() {
        ClaySeals x = new ClaySeals();
        Checks.ring(x, "##.*14");
        Checks.ring(x, "##.*14");
        Checks.ring(x, "##.*14");
        x.anew(2, 1, 0);
        Checks.lump(x, "##?*14", 0, 59);
        Checks.lump(x, "##.*14", 0, 59);
        Checks.lump(x, "##.*13?", 0, 59);
        Checks.lump(x, "?*16", 0, 59);
        x.aside(0b1010);
        for (int k = 0; k < 5; k++) {
            x.held(0, 0, 0, 59);
        }
        Checks.line(x, "#*15x..");
        int[] due = {3, 2, 4, 10, 5, 7, 31};
        for (int what = 0; what < due.length; what++) {
            CHECKS.due("count(" + what + ")", x.count(what), due[what]);
        }
        int[] bad = {7, 9, -1, LEAST, MOST};
        for (int what : bad) {
            CHECKS.refused(x, "count(" + what + ")", () -> x.count(what), -2);
        }
    }

    private static void latestFinding() {
        ClaySeals x = new ClaySeals();
        CHECKS.due("count(8) at first", x.count(8), 0);
        x.lose(0);
        CHECKS.due("NULL", x.count(8), 1);
        x.sheet(0, 0, 2);
        x.sheet(1, 1, 2);
        CHECKS.due("it stays", x.count(8), 1);
        x.put(0, 0, 2, 0);
        CHECKS.due("INDEX", x.count(8), 2);
        x.put(0, 1, 2, 0);
        CHECKS.due("CAST", x.count(8), 3);
        x.copy(0, 0, 1, 0, 1);
        CHECKS.due("STORE", x.count(8), 4);
        x.sheet(0, 0, -1);
        CHECKS.due("SIZE", x.count(8), 5);
        x.type(-1);
        x.ring();
        x.put(9, 0, 0, 0);
        CHECKS.due("other refusals leave it", x.count(8), 5);
    }

    private static long mix(long h, int... told) {
        long mixed = h;
        for (int v : told) {
            mixed = 31 * mixed + v;
        }
        return mixed;
    }

    /** With every number that goes into it written out. */
    private static void digest() {
        ClaySeals x = new ClaySeals();
        Checks.ring(x, "##.*14");
        Checks.ring(x, "#..#.*12");
        Checks.ring(x, "##.*14");
        x.anew(2, 0, 7);
        x.held(1, 3, 5, 9);
        x.held(2, 4, 0, 8);
        x.held(0, 4, 50, 59);
        Checks.lump(x, "..?#...#.*8", 7, 8, 1, 3);
        Checks.lump(x, "?*16", 9, 40, 2, 2);
        Checks.lump(x, "#..#.*12", 8, 8, 3, 1);
        Checks.line(x, "#*");
        x.aside(4);
        long h = mix(17, 3, 2, 3, 4, 3, 2, 17);
        h = mix(h, 2);
        h = mix(h, 3, -1, -1, 0, 1);
        h = mix(h, 9, -1, -1, 1, 1);
        h = mix(h, 3, 0, 7, 0, 1);
        h = mix(h, 8 | 128, 4, 7, 8, 1, 3, 0, 2, 1, 4);
        h = mix(h, 0, 65535, 9, 40, 2, 2, 0, 1, 0, 2);
        h = mix(h, 9, 0, 8, 8, 3, 1, 1, -1, -1, 0);
        h = mix(h, 1, 2, 3, 4, 0, 1);
        CHECKS.due("digest()", x.digest(), h);
        CHECKS.due("digest() again", x.digest(), h);
        ClaySeals y = new ClaySeals();
        Checks.lump(y, "#*16", 0, 59, 0, 0);
        long none = mix(17, 0, 0, 1, 0, 0, 0, 0, 0);
        none = mix(none, 65535, 0, 0, 59, 0, 0, 0, -3, -3, -3);
        none = mix(none, 0, -3, -3, -3, 1, 1);
        CHECKS.due("digest() without a WAY", y.digest(), none);
        ClaySeals z = new ClaySeals();
        long full = mix(17, 0, 0, 9, 0, 0, 0, 0, 0);
        for (int k = 0; k < 9; k++) {
            Checks.lump(z, "#*16", k, 59, 0, 0);
            full = mix(full, 65535, 0, k, 59, 0, 0, 0, -4, -4, -4);
        }
        full = mix(full, -4, -4, -4, -4, -4, -4);
        CHECKS.due("digest() of 9", z.digest(), full);
    }

    private static void digestHasNoSheets() {
        ClaySeals x = new ClaySeals();
        long before = x.digest();
        x.sheet(0, 0, 5);
        x.put(0, 0, 0, 5);
        x.get(1, 0, 0);
        CHECKS.due("digest() with SHEETS and FINDINGS", x.digest(), before);
        x.type('#');
        CHECKS.due("digest() with a byte", x.digest() == before ? 0 : 1, 1);
    }
}
