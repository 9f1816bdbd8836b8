/** Promises 24 to 28: joined, least, ones, near, copyOf. */
public final class StrangersTest {
    private static final Checks CHECKS = new Checks();
    private static final int LEAST = Integer.MIN_VALUE;
    private static final int MOST = Integer.MAX_VALUE;

    public static void main(String[] args) {
        joinedByPictures();
        joinedByDays();
        joinedByAnotherTurn();
        joinedRefused();
        fewest();
        notByTheFirstThatFits();
        edgesOfLeast();
        onesRefused();
        near();
        nearRefused();
        copies();
        copiesRefused();
        CHECKS.finish();
    }

    private static void joined(String first, String second, int want) {
        ClaySeals x = new ClaySeals();
        Checks.lump(x, first, 0, 59);
        Checks.lump(x, second, 0, 59);
        CHECKS.due(first + " joined " + second, x.joined(0, 1), want);
        CHECKS.due(second + " joined " + first, x.joined(1, 0), want);
        CHECKS.due("least() of " + first + ", " + second, x.least(), 2 - want);
        CHECKS.due("ones(1) of " + first + ", " + second, x.ones(1), 1 - want);
    }

    private static void joinedByPictures() {
        joined("##.*14", "##.*14", 1);
        joined("##.*14", "...#...#.*8", 1);
        joined("##.*14", ".*14##", 1);
        joined("##.*14", ".*8#...#...", 1);
        joined("##.*14", "#.*15", 1);
        joined("##.*14", ".*16", 1);
        joined("##.*14", "?*16", 1);
        joined("##.*14", "#*16", 1);
        joined("##.*14", "#.#.*13", 0);
        joined("##.*14", "#.?.*13", 1);
        joined("##.*14", "..##.*12", 0);
        joined("#.*15", ".....#.*10", 0);
        joined("#.*15", ".*6#.*9", 0);
        joined("#.*15", "?....#.*10", 1);
        joined("#.*15", ".*5?.*10", 1);
        joined("#.*15", "?....#.*10", 1);
        joined("#.?*14", ".#?*14", 1);
        joined("#.?..?.?..?.?..?", ".#?..?.?..?.?..?", 1);
        joined("##.*6#.*7", "#.*15", 1);
        joined("##.*6#.*7", "##.*14", 1);
        joined("##.*6#.*7", "#.*7#.*7", 1);
        joined("##.*6#.*7", "#.*8#.*6", 0);
    }

    private static void joinedByDays() {
        int[][] days = {{10, 20, 0, 9, 0}, {10, 20, 0, 10, 1}, {10, 20, 30, 40, 1}, {0, 0, 0, 0, 1}, {1, 1, 0, 0, 0},
            {59, 59, 0, 59, 1}, {59, 59, 0, 58, 0}, {0, 59, 0, 0, 1}};
        for (int[] d : days) {
            ClaySeals x = new ClaySeals();
            Checks.lump(x, "##.*14", d[0], d[1]);
            Checks.lump(x, "#.*15", d[2], d[3]);
            CHECKS.due("the first shows more: " + d[0] + ", " + d[2] + " to " + d[3], x.joined(0, 1), d[4]);
            CHECKS.due("the second shows more: " + d[0] + ", " + d[2] + " to " + d[3], x.joined(1, 0), d[4]);
            Checks.lump(x, "#.*15", d[0], d[1]);
            CHECKS.due("none shows more", x.joined(1, 2), 1);
        }
    }

    /** As they lie, the first shows more; TURNED, the second one does. */
    private static void joinedByAnotherTurn() {
        for (int late = 0; late < 2; late++) {
            ClaySeals x = new ClaySeals();
            Checks.lump(x, "#...............", late * 30, late * 30 + 9);
            Checks.lump(x, ".?????????????.#", 10, 19);
            CHECKS.due("TURNED twice they are alike", x.joined(0, 1), 1);
            ClaySeals y = new ClaySeals();
            Checks.lump(y, "#??.????????????", late * 30, late * 30 + 9);
            Checks.lump(y, ".??.????????.???", 10, 19);
            CHECKS.due("some turn leaves them without order", y.joined(0, 1), 1);
            ClaySeals z = new ClaySeals();
            Checks.lump(z, "#??#????????#??#", late * 30, late * 30 + 9);
            Checks.lump(z, ".??#????????#??#", 10, 19);
            CHECKS.due("each turn leaves the first one EARLIER", z.joined(0, 1), 1 - late);
        }
    }

    private static void joinedRefused() {
        ClaySeals x = new ClaySeals();
        Checks.lump(x, "#*16", 0, 0);
        Checks.lump(x, "#*16", 0, 0);
        int[][] bad = {{0, 0}, {1, 1}, {0, 2}, {2, 0}, {-1, 0}, {0, -1}, {LEAST, 0}, {0, MOST}, {-1, -1}};
        for (int[] b : bad) {
            CHECKS.refused(x, "joined(" + b[0] + ", " + b[1] + ")", () -> x.joined(b[0], b[1]), -2);
        }
        x.aside(3);
        CHECKS.due("joined() of two ASIDE", x.joined(0, 1), 1);
    }

    private static void ones(ClaySeals x, String of, int least, int... ones) {
        CHECKS.due(of + ": least()", x.least(), least);
        for (int k = 0; k < ones.length; k++) {
            CHECKS.due(of + ": ones(" + k + ")", x.ones(k), ones[k]);
        }
    }

    private static void fewest() {
        ClaySeals x = new ClaySeals();
        Checks.lump(x, "##.*14", 0, 59);
        ones(x, "one", 1, 0);
        Checks.lump(x, "#.#.*13", 0, 59);
        Checks.lump(x, ".*14##", 0, 59);
        Checks.lump(x, "?*16", 0, 59);
        Checks.lump(x, "#....#.*10", 0, 59);
        ones(x, "five", 3, 0, 1, 0, 0, 2);
        x.aside(1);
        ones(x, "the first ASIDE", 3, -1, 0, 1, 0, 2);
        x.aside(2);
        ones(x, "the second ASIDE", 2, 0, -1, 0, 0, 1);
        x.aside(0b10110);
        ones(x, "only the first and the fourth", 1, 0, -1, -1, 0, -1);
        x.aside(31);
        ones(x, "all ASIDE", 0, -1, -1, -1, -1, -1);
        x.aside(0);
        ones(x, "none ASIDE", 3, 0, 1, 0, 0, 2);
    }

    /** The first goes with the second, but then the fourth goes with none; all have one border. */
    private static void notByTheFirstThatFits() {
        ClaySeals x = new ClaySeals();
        Checks.lump(x, "##...#...??.....", 0, 59);
        Checks.lump(x, "##....?..#?.....", 0, 59);
        Checks.lump(x, "##....#..#......", 0, 59);
        Checks.lump(x, "##...#?...#.....", 0, 59);
        int[][] apart = {{0, 2}, {2, 3}, {1, 3}};
        int[][] together = {{0, 1}, {0, 3}, {1, 2}};
        for (int[] pair : apart) {
            CHECKS.due("joined(" + pair[0] + ", " + pair[1] + ")", x.joined(pair[0], pair[1]), 0);
        }
        for (int[] pair : together) {
            CHECKS.due("joined(" + pair[0] + ", " + pair[1] + ")", x.joined(pair[0], pair[1]), 1);
        }
        ones(x, "four in a row", 2, 0, 1, 1, 0);
        x.aside(4);
        ones(x, "without the third", 2, 0, 0, -1, 1);
    }

    private static void edgesOfLeast() {
        ClaySeals x = new ClaySeals();
        CHECKS.due("least() of none", x.least(), 0);
        String[] apart = {"##.*14", "#.#.*13", "#..#.*12", "#...#.*11", "#....#.*10", "#.....#.*9", "#......#.*8",
            "#.........#.....", ".....##........."};
        for (int k = 0; k < 8; k++) {
            Checks.lump(x, apart[k], 0, 59);
        }
        int many = x.least();
        boolean[] seen = new boolean[9];
        int numbers = 0;
        for (int k = 0; k < 8; k++) {
            if (!seen[x.ones(k)]) {
                seen[x.ones(k)] = true;
                CHECKS.due("numbers come in order", x.ones(k), numbers);
                numbers++;
            }
        }
        CHECKS.due("least() is how many numbers there are", many, numbers);
        ClaySeals y = new ClaySeals();
        String[] alone = {"##.*14", "#.#.*13", "#..#.*12", "#....#.*10", "#.....#.*9", ".##.*13", "#*4.*9##.", ".....##.*9"};
        for (String text : alone) {
            Checks.lump(y, text, 0, 59);
        }
        Checks.lump(y, "#*16", 0, 59);
        y.aside(64 + 256);
        ones(y, "seven, none with another", 7, 0, 1, 2, 3, 4, 5, -1, 6, -1);
        y.aside(256);
        CHECKS.due("an eighth that goes with the first", y.ones(6), 0);
        y.aside(0);
        CHECKS.refused(y, "least() of 9", y::least, -4);
        CHECKS.refused(y, "ones() of 9", () -> y.ones(0), -4);
        CHECKS.refused(y, "ones() of 9: BAD goes ahead", () -> y.ones(9), -2);
    }

    private static void onesRefused() {
        ClaySeals x = new ClaySeals();
        CHECKS.refused(x, "ones(0) without LUMPS", () -> x.ones(0), -2);
        for (int k = 0; k < 10; k++) {
            Checks.lump(x, "#*16", 0, 59);
        }
        x.aside(3);
        int[] bad = {10, -1, LEAST, MOST};
        for (int lump : bad) {
            CHECKS.refused(x, "ones(" + lump + ")", () -> x.ones(lump), -2);
        }
        ones(x, "8 of 10", 1, -1, -1, 0, 0, 0, 0, 0, 0, 0, 0);
        x.aside(1);
        CHECKS.due("9 of 10: ones() of one ASIDE", x.ones(0), -4);
    }

    private static void near() {
        ClaySeals x = new ClaySeals();
        String[] texts = {"##.*14", "#.#.*13", "...#...#...#....", "#*16", ".*16", ".*14##"};
        for (String text : texts) {
            Checks.ring(x, text);
        }
        int[][] due = {{0, 2, 1, 14, 2, 0}, {2, 0, 1, 14, 2, 2}, {1, 1, 0, 13, 3, 1}, {14, 14, 13, 0, 16, 14},
            {2, 2, 3, 16, 0, 2}, {0, 2, 1, 14, 2, 0}};
        for (int a = 0; a < 6; a++) {
            for (int b = 0; b < 6; b++) {
                CHECKS.due("near(" + a + ", " + b + ")", x.near(a, b), a == b ? -2 : due[a][b]);
            }
        }
    }

    private static void nearRefused() {
        ClaySeals x = new ClaySeals();
        CHECKS.refused(x, "near(0, 1) without RINGS", () -> x.near(0, 1), -2);
        Checks.ring(x, "#*16");
        Checks.ring(x, "#*16");
        int[][] bad = {{0, 0}, {1, 1}, {0, 2}, {2, 0}, {-1, 0}, {0, -1}, {LEAST, 0}, {0, MOST}};
        for (int[] b : bad) {
            CHECKS.refused(x, "near(" + b[0] + ", " + b[1] + ")", () -> x.near(b[0], b[1]), -2);
        }
        CHECKS.due("near(0, 1)", x.near(0, 1), 0);
    }

    private static void copies() {
        ClaySeals x = new ClaySeals();
        Checks.ring(x, "##.*14");
        CHECKS.due("one alone", x.copyOf(0, 16), -1);
        Checks.ring(x, "...#...#.*8");
        CHECKS.due("TURNED it is the same", x.copyOf(0, 0), 1);
        CHECKS.due("and the other way", x.copyOf(1, 0), 0);
        x.anew(1, 0, 5);
        CHECKS.due("of one STONE", x.copyOf(0, 16), -1);
        CHECKS.due("of one STONE, the newer", x.copyOf(1, 16), -1);
        Checks.ring(x, "#*5.*11");
        Checks.ring(x, "###.*13");
        Checks.ring(x, ".*13###");
        CHECKS.due("copyOf(0, 16): the nearest", x.copyOf(0, 16), 3);
        CHECKS.due("copyOf(1, 16)", x.copyOf(1, 16), 3);
        CHECKS.due("copyOf(0, 1)", x.copyOf(0, 1), 3);
        CHECKS.due("copyOf(0, 0)", x.copyOf(0, 0), -1);
        CHECKS.due("copyOf(2, 1)", x.copyOf(2, 1), -1);
        CHECKS.due("copyOf(2, 2)", x.copyOf(2, 2), 3);
        CHECKS.due("copyOf(3, 0)", x.copyOf(3, 0), 4);
        CHECKS.due("copyOf(4, 16)", x.copyOf(4, 16), 3);
        x.anew(4, 3, 5);
        CHECKS.due("copyOf(3, 0): that is of one STONE now", x.copyOf(3, 0), -1);
        CHECKS.due("copyOf(3, 1): the least of like ones", x.copyOf(3, 1), 0);
        ClaySeals y = new ClaySeals();
        Checks.ring(y, "#*16");
        Checks.ring(y, ".*16");
        CHECKS.due("all 16 cells", y.copyOf(0, 16), 1);
        CHECKS.due("15 cells", y.copyOf(0, 15), -1);
    }

    private static void copiesRefused() {
        ClaySeals x = new ClaySeals();
        Checks.ring(x, "#*16");
        int[][] bad = {{1, 0}, {-1, 0}, {0, 17}, {0, -1}, {LEAST, 0}, {MOST, 0}, {0, LEAST}, {0, MOST}};
        for (int[] b : bad) {
            CHECKS.refused(x, "copyOf(" + b[0] + ", " + b[1] + ")", () -> x.copyOf(b[0], b[1]), -2);
        }
    }
}
