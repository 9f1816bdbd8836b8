/** Promises 13 to 15: can, cells, earlier. */
public final class CanBeTest {
    private static final Checks CHECKS = new Checks();
    private static final int LEAST = Integer.MIN_VALUE;
    private static final int MOST = Integer.MAX_VALUE;

    public static void main(String[] args) {
        turnedMarks();
        everyCellTurned();
        daysOfHeld();
        daysOfAnew();
        refusedCan();
        cells();
        cellsRefused();
        earlier();
        earlierRefused();
        CHECKS.finish();
    }

    private static void turnedMarks() {
        ClaySeals x = new ClaySeals();
        Checks.ring(x, "##..#...........");
        Checks.lump(x, "##..#...........", 0, 59);
        Checks.lump(x, "..##...#........", 0, 59);
        Checks.lump(x, "...........#..##", 0, 59);
        Checks.lump(x, "........#...##..", 0, 59);
        Checks.lump(x, "##.*14", 0, 59);
        Checks.lump(x, "#.*15", 0, 59);
        Checks.lump(x, "?*16", 0, 59);
        Checks.lump(x, ".*16", 0, 59);
        Checks.lump(x, "?????#??????????", 0, 59);
        Checks.lump(x, "???#????????????", 0, 59);
        int[] due = {1, 2, 4, 8, 1, 1, 15, 15, 0, 2};
        for (int lump = 0; lump < due.length; lump++) {
            CHECKS.due("can(" + lump + ", 0)", x.can(lump, 0), due[lump]);
        }
    }

    /** A RING with one mark: a LUMP that shows it where r, p comes to p, 3 less r. */
    private static void everyCellTurned() {
        for (int cell = 0; cell < 16; cell++) {
            ClaySeals x = new ClaySeals();
            Checks.ring(x, oneMark(cell));
            int r = cell / 4;
            int p = cell % 4;
            for (int turned = 0; turned < 4; turned++) {
                Checks.lump(x, oneMark(4 * r + p), 0, 59);
                CHECKS.due("a mark at " + cell + " TURNED " + turned, x.can(turned, 0), 1 << turned);
                CHECKS.due("its cell", x.cells(turned, 0, turned, 1), 1 << cell);
                int next = p;
                p = 3 - r;
                r = next;
            }
        }
    }

    private static String oneMark(int cell) {
        StringBuilder s = new StringBuilder("................");
        s.setCharAt(cell, '#');
        return s.toString();
    }

    private static void daysOfHeld() {
        ClaySeals x = new ClaySeals();
        Checks.ring(x, "#*16");
        Checks.ring(x, "#*16");
        for (int day = 0; day < 12; day++) {
            Checks.lump(x, "#*16", 5 * day, 5 * day + 4);
        }
        x.held(1, 0, 14, 20);
        for (int day = 0; day < 12; day++) {
            CHECKS.due("can(" + day + ", 0) of one without HELD", x.can(day, 0), 15);
            CHECKS.due("can(" + day + ", 1) HELD 14 to 20", x.can(day, 1), day >= 2 && day <= 4 ? 15 : 0);
        }
        x.held(1, 0, 59, 59);
        x.held(0, 0, 0, 0);
        for (int day = 0; day < 12; day++) {
            CHECKS.due("can(" + day + ", 0) HELD 0", x.can(day, 0), day == 0 ? 15 : 0);
            CHECKS.due("can(" + day + ", 1) HELD 14 to 20, 59", x.can(day, 1),
                day >= 2 && day <= 4 || day == 11 ? 15 : 0);
        }
    }

    private static void daysOfAnew() {
        ClaySeals x = new ClaySeals();
        Checks.ring(x, "#*16");
        Checks.ring(x, "#*16");
        Checks.ring(x, "#*16");
        x.anew(1, 0, 20);
        x.anew(2, 1, 40);
        int[] days = {0, 19, 20, 21, 39, 40, 41, 59};
        int[][] due = {{15, 15, 15, 0, 0, 0, 0, 0}, {0, 0, 15, 15, 15, 15, 0, 0}, {0, 0, 0, 0, 0, 15, 15, 15}};
        for (int k = 0; k < days.length; k++) {
            Checks.lump(x, "?*16", days[k], days[k]);
            for (int ring = 0; ring < 3; ring++) {
                CHECKS.due("can() on DAY " + days[k] + " of RING " + ring, x.can(k, ring), due[ring][k]);
            }
        }
        x.held(1, 0, 0, 20);
        CHECKS.due("HELD to the DAY of the cut", x.can(2, 1), 15);
        CHECKS.due("HELD no longer", x.can(3, 1), 0);
        CHECKS.due("HELD ahead of the cut does not help", x.can(1, 1), 0);
        x.held(2, 0, 0, 39);
        CHECKS.due("HELD only ahead of the cut", x.can(5, 2), 0);
        ClaySeals y = new ClaySeals();
        Checks.ring(y, "#*16");
        Checks.ring(y, "#*16");
        Checks.ring(y, "#*16");
        y.anew(1, 0, 40);
        y.anew(2, 1, 20);
        Checks.lump(y, "?*16", 0, 59);
        CHECKS.due("can(0, 0)", y.can(0, 0), 15);
        CHECKS.due("cut anew ahead of its own cut: no DAY", y.can(0, 1), 0);
        CHECKS.due("can(0, 2)", y.can(0, 2), 15);
    }

    private static void refusedCan() {
        ClaySeals x = new ClaySeals();
        Checks.ring(x, "#*16");
        CHECKS.refused(x, "can(0, 0) without LUMPS", () -> x.can(0, 0), -2);
        Checks.lump(x, "#*16", 0, 0);
        int[][] bad = {{1, 0}, {0, 1}, {-1, 0}, {0, -1}, {LEAST, 0}, {MOST, 0}, {0, LEAST}, {0, MOST}};
        for (int[] b : bad) {
            CHECKS.refused(x, "can(" + b[0] + ", " + b[1] + ")", () -> x.can(b[0], b[1]), -2);
        }
        x.aside(1);
        CHECKS.due("can() of one ASIDE", x.can(0, 0), 15);
    }

    private static void cells() {
        ClaySeals x = new ClaySeals();
        Checks.ring(x, "####............");
        Checks.lump(x, "#.?#............", 0, 59);
        Checks.lump(x, "...#...?........", 0, 59);
        Checks.lump(x, "............#??.", 0, 59);
        Checks.lump(x, ".*16", 0, 59);
        CHECKS.due("CHIPPED, not TURNED", x.cells(0, 0, 0, 0), 2);
        CHECKS.due("WHOLE, not TURNED", x.cells(0, 0, 0, 1), 1 | 8);
        // TURNED once, the RING's row lies in the last place of each row, cell 0 at the top.
        CHECKS.due("CHIPPED, TURNED once", x.cells(1, 0, 1, 0), 4 | 8);
        CHECKS.due("WHOLE, TURNED once", x.cells(1, 0, 1, 1), 1);
        // TURNED twice, it lies in the last row, cell 0 at the end.
        CHECKS.due("CHIPPED, TURNED twice", x.cells(2, 0, 2, 0), 1);
        CHECKS.due("WHOLE, TURNED twice", x.cells(2, 0, 2, 1), 8);
        // TURNED three times, it lies in the first place of each row, cell 0 at the bottom.
        CHECKS.due("CHIPPED, TURNED three times", x.cells(2, 0, 3, 0), 2 | 4 | 8);
        CHECKS.due("WHOLE, TURNED three times", x.cells(2, 0, 3, 1), 1);
        CHECKS.due("all CHIPPED", x.cells(3, 0, 3, 0), 15);
        CHECKS.due("none WHOLE", x.cells(3, 0, 3, 1), 0);
        x.aside(8);
        CHECKS.due("cells() of one ASIDE", x.cells(3, 0, 0, 0), 15);
    }

    private static void cellsRefused() {
        ClaySeals x = new ClaySeals();
        Checks.ring(x, "#.*15");
        Checks.lump(x, "#.*15", 5, 9);
        int[][] bad = {{1, 0, 0, 0}, {0, 1, 0, 0}, {-1, 0, 0, 0}, {0, -1, 0, 0}, {0, 0, 4, 0}, {0, 0, -1, 0},
            {0, 0, 0, 2}, {0, 0, 0, -1}, {LEAST, 0, 0, 0}, {0, MOST, 0, 0}, {0, 0, MOST, 0}, {0, 0, 0, LEAST},
            {0, 0, 1, 2}};
        for (int[] b : bad) {
            CHECKS.refused(x, "cells(" + b[0] + ", " + b[1] + ", " + b[2] + ", " + b[3] + ")",
                () -> x.cells(b[0], b[1], b[2], b[3]), -2);
        }
        for (int turned = 1; turned < 4; turned++) {
            int t = turned;
            CHECKS.refused(x, "cells() TURNED as it can not be", () -> x.cells(0, 0, t, 0), -3);
        }
        CHECKS.due("cells(0, 0, 0, 1)", x.cells(0, 0, 0, 1), 1);
        x.held(0, 0, 10, 59);
        CHECKS.refused(x, "cells() with no DAY", () -> x.cells(0, 0, 0, 1), -3);
    }

    private static void earlier() {
        ClaySeals x = new ClaySeals();
        Checks.ring(x, "####............");
        Checks.lump(x, "####............", 0, 59);
        Checks.lump(x, "##..............", 0, 59);
        Checks.lump(x, "???.............", 0, 59);
        Checks.lump(x, "...#...#........", 0, 59);
        Checks.lump(x, ".##.............", 0, 59);
        int[][] due = {{0, 0, 1, 0, 1}, {1, 0, 0, 0, 0}, {0, 0, 2, 0, 1}, {2, 0, 0, 0, 0}, {1, 0, 2, 0, 0},
            {2, 0, 1, 0, 0}, {0, 0, 3, 1, 1}, {3, 1, 0, 0, 0}, {1, 0, 3, 1, 0}, {3, 1, 1, 0, 0}, {4, 0, 1, 0, 1},
            {1, 0, 4, 0, 1}, {3, 1, 2, 0, 0}, {2, 0, 3, 1, 0}, {4, 0, 0, 0, 0}};
        for (int[] d : due) {
            CHECKS.due("earlier(0, " + d[0] + ", " + d[1] + ", " + d[2] + ", " + d[3] + ")",
                x.earlier(0, d[0], d[1], d[2], d[3]), d[4]);
        }
        CHECKS.due("earlier() has nothing to do with ASIDE", x.aside(3) + x.earlier(0, 0, 0, 1, 0), 1);
    }

    private static void earlierRefused() {
        ClaySeals x = new ClaySeals();
        Checks.ring(x, "##.*14");
        Checks.lump(x, "##.*14", 0, 9);
        Checks.lump(x, "#.*15", 5, 20);
        int[][] bad = {{1, 0, 0, 1, 0}, {-1, 0, 0, 1, 0}, {0, 2, 0, 1, 0}, {0, 0, 0, 2, 0}, {0, -1, 0, 1, 0},
            {0, 0, 0, -1, 0}, {0, 0, 4, 1, 0}, {0, 0, 0, 1, 4}, {0, 0, -1, 1, 0}, {0, 0, 0, 1, -1}, {0, 0, 0, 0, 0},
            {0, 1, 0, 1, 0}, {0, 0, 0, 0, 1}, {LEAST, 0, 0, 1, 0}, {0, MOST, 0, 1, 0}, {0, 0, MOST, 1, 0},
            {0, 0, 0, LEAST, 0}, {0, 0, 0, 1, MOST}};
        for (int[] b : bad) {
            CHECKS.refused(x, "earlier(" + b[0] + ", " + b[1] + ", " + b[2] + ", " + b[3] + ", " + b[4] + ")",
                () -> x.earlier(b[0], b[1], b[2], b[3], b[4]), -2);
        }
        CHECKS.due("earlier(0, 0, 0, 1, 0)", x.earlier(0, 0, 0, 1, 0), 1);
        CHECKS.refused(x, "the first can not be so", () -> x.earlier(0, 0, 2, 1, 0), -3);
        CHECKS.refused(x, "the second can not be so", () -> x.earlier(0, 0, 0, 1, 1), -3);
        x.held(0, 0, 0, 4);
        CHECKS.refused(x, "the second has no DAY", () -> x.earlier(0, 0, 0, 1, 0), -3);
    }
}
