/** Promises 29 to 31: shut, gap, clean. */
public final class DoorsTest {
    private static final Checks CHECKS = new Checks();
    private static final int LEAST = Integer.MIN_VALUE;
    private static final int MOST = Integer.MAX_VALUE;

    public static void main(String[] args) {
        shut();
        shutRefused();
        gap();
        gapRefused();
        clean();
        cleanByStones();
        cleanByStonesAtTheEdge();
        cleanByCells();
        cleanRefused();
        CHECKS.finish();
    }

    private static void peg(ClaySeals x, int from, int to, int door) {
        Checks.lump(x, "#*16", from, to, 1, door);
    }

    private static void shut() {
        ClaySeals x = new ClaySeals();
        CHECKS.due("shut() without LUMPS", x.shut(0, 0, 0), 0);
        peg(x, 0, 0, 0);
        peg(x, 0, 10, 0);
        peg(x, 5, 59, 0);
        peg(x, 59, 59, 0);
        peg(x, 59, 59, 0);
        peg(x, 5, 5, 3);
        Checks.lump(x, "#*16", 7, 7, 0, 0);
        Checks.lump(x, "#*16", 7, 7, 2, 0);
        Checks.lump(x, "#*16", 7, 7, 3, 0);
        int[][] due = {{0, 0, 2, 1}, {0, 1, 1, 0}, {0, 4, 1, 0}, {0, 5, 2, 0}, {0, 7, 2, 0}, {0, 10, 2, 0},
            {0, 11, 1, 0}, {0, 58, 1, 0}, {0, 59, 3, 2}, {3, 4, 0, 0}, {3, 5, 1, 1}, {3, 6, 0, 0}, {1, 5, 0, 0}};
        for (int[] d : due) {
            CHECKS.due("shut(" + d[0] + ", " + d[1] + ", 0)", x.shut(d[0], d[1], 0), d[2]);
            CHECKS.due("shut(" + d[0] + ", " + d[1] + ", 1)", x.shut(d[0], d[1], 1), d[3]);
        }
        x.aside(1 | 8);
        CHECKS.due("one ASIDE can not", x.shut(0, 0, 0), 1);
        CHECKS.due("one ASIDE must not", x.shut(0, 0, 1), 0);
        CHECKS.due("the other one must", x.shut(0, 59, 1), 1);
    }

    private static void shutRefused() {
        ClaySeals x = new ClaySeals();
        peg(x, 0, 59, 0);
        int[][] bad = {{4, 0, 0}, {-1, 0, 0}, {0, 60, 0}, {0, -1, 0}, {0, 0, 2}, {0, 0, -1}, {LEAST, 0, 0},
            {MOST, 0, 0}, {0, LEAST, 0}, {0, MOST, 0}, {0, 0, LEAST}, {0, 0, MOST}};
        for (int[] b : bad) {
            CHECKS.refused(x, "shut(" + b[0] + ", " + b[1] + ", " + b[2] + ")", () -> x.shut(b[0], b[1], b[2]), -2);
        }
    }

    private static void gap() {
        ClaySeals x = new ClaySeals();
        CHECKS.due("gap() without LUMPS", x.gap(0), 0);
        peg(x, 10, 12, 2);
        CHECKS.due("gap() of one", x.gap(2), 0);
        peg(x, 13, 13, 2);
        CHECKS.due("gap() of two beside", x.gap(2), 0);
        peg(x, 15, 15, 2);
        CHECKS.due("gap() of a DAY", x.gap(2), 1);
        peg(x, 5, 6, 2);
        CHECKS.due("gap() ahead of them", x.gap(2), 3);
        peg(x, 59, 59, 2);
        CHECKS.due("gap() up to the last DAY", x.gap(2), 43);
        Checks.lump(x, "#*16", 20, 50, 0, 2);
        CHECKS.due("gap() has nothing to do with string", x.gap(2), 43);
        peg(x, 20, 50, 1);
        CHECKS.due("gap() of another DOOR", x.gap(2), 43);
        CHECKS.due("gap(1)", x.gap(1), 0);
        peg(x, 20, 50, 2);
        CHECKS.due("gap() with a wide one", x.gap(2), 8);
        x.aside(128);
        CHECKS.due("gap() with that ASIDE", x.gap(2), 43);
        x.aside(128 | 16);
        CHECKS.due("gap() with two ASIDE", x.gap(2), 3);
        peg(x, 0, 0, 2);
        CHECKS.due("gap() from the first DAY", x.gap(2), 4);
        peg(x, 0, 0, 3);
        peg(x, 59, 59, 3);
        CHECKS.due("gap() of all between", x.gap(3), 58);
        peg(x, 0, 59, 3);
        CHECKS.due("gap() of none between", x.gap(3), 0);
    }

    private static void gapRefused() {
        ClaySeals x = new ClaySeals();
        int[] bad = {4, -1, LEAST, MOST};
        for (int door : bad) {
            CHECKS.refused(x, "gap(" + door + ")", () -> x.gap(door), -2);
        }
    }

    private static void clean() {
        ClaySeals x = new ClaySeals();
        CHECKS.due("clean() of nothing", x.clean(), -1);
        Checks.ring(x, "##.*14");
        Checks.lump(x, "##?*14", 0, 59);
        CHECKS.due("clean() of a sure one", x.clean(), -1);
        Checks.ring(x, "###.*13");
        CHECKS.due("clean() of one with two STONES", x.clean(), 0);
        x.anew(1, 0, 30);
        CHECKS.due("clean() of one with one STONE of two RINGS", x.clean(), -1);
        ClaySeals y = new ClaySeals();
        Checks.ring(y, "##.*14");
        Checks.ring(y, "##.*14");
        Checks.lump(y, "##.*14", 0, 59);
        CHECKS.due("clean() of one with all cells seen", y.clean(), -1);
        Checks.lump(y, "##.*13?", 0, 59);
        CHECKS.due("clean() of one with one cell not seen", y.clean(), 1);
        y.aside(2);
        CHECKS.due("clean() with that ASIDE", y.clean(), -1);
    }

    private static void cleanByStones() {
        ClaySeals x = new ClaySeals();
        Checks.ring(x, "##.*14");
        Checks.ring(x, "###.*13");
        Checks.ring(x, "#.#.*13");
        Checks.lump(x, "??#?*13", 0, 59);
        Checks.lump(x, "#.*14?", 0, 59);
        CHECKS.due("may(0)", x.may(0), 6);
        CHECKS.due("may(1)", x.may(1), 7);
        CHECKS.due("clean(): more STONES go ahead of more cells", x.clean(), 1);
        Checks.lump(x, "#.*13??", 0, 59);
        CHECKS.due("clean(): then more cells", x.clean(), 2);
        x.aside(6);
        CHECKS.due("clean() with those ASIDE", x.clean(), 0);
        x.aside(0);
        x.anew(2, 1, 0);
        Checks.lump(x, "?*16", 0, 0);
        CHECKS.due("clean() counts STONES, not RINGS", x.clean(), 3);
    }

    /** Three STONES and one cell go ahead of two STONES and all 16 cells. */
    private static void cleanByStonesAtTheEdge() {
        ClaySeals x = new ClaySeals();
        Checks.ring(x, "##.*14");
        Checks.ring(x, "##.*14");
        Checks.ring(x, "##.*14");
        x.held(2, 0, 30, 59);
        Checks.lump(x, "?*16", 0, 29);
        Checks.lump(x, "##.*13?", 0, 59);
        CHECKS.due("may(0)", x.may(0), 3);
        CHECKS.due("may(1)", x.may(1), 7);
        CHECKS.due("clean()", x.clean(), 1);
    }

    private static void cleanByCells() {
        ClaySeals x = new ClaySeals();
        Checks.ring(x, "##.*14");
        Checks.ring(x, "##.*14");
        Checks.lump(x, "##?*4.*10", 0, 59);
        Checks.lump(x, "##?*6.*8", 0, 59);
        Checks.lump(x, "##?*6.*8", 0, 59);
        Checks.lump(x, "##?*5.*9", 0, 59);
        CHECKS.due("clean(): the least of like ones", x.clean(), 1);
        x.aside(2);
        CHECKS.due("clean(): the next of like ones", x.clean(), 2);
        x.aside(6);
        CHECKS.due("clean(): the next by cells", x.clean(), 3);
        x.aside(14);
        CHECKS.due("clean(): the last one", x.clean(), 0);
        x.aside(15);
        CHECKS.due("clean(): none", x.clean(), -1);
    }

    private static void cleanRefused() {
        ClaySeals x = new ClaySeals();
        Checks.lump(x, "?*16", 0, 59);
        CHECKS.refused(x, "clean() without a WAY", x::clean, -3);
        Checks.ring(x, "##.*14");
        Checks.ring(x, "##.*14");
        CHECKS.due("clean()", x.clean(), 0);
        for (int k = 0; k < 8; k++) {
            Checks.lump(x, "?*16", 0, 59);
        }
        CHECKS.refused(x, "clean() of 9", x::clean, -4);
        x.aside(1);
        CHECKS.due("clean() of 8 of 9", x.clean(), 1);
    }
}
