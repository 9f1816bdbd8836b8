/** Promises 5 to 12: ring, anew, held, read, lump, aside, lumpIs, ringIs. */
public final class RingsAndLumpsTest {
    private static final Checks CHECKS = new Checks();
    private static final int LEAST = Integer.MIN_VALUE;
    private static final int MOST = Integer.MAX_VALUE;

    public static void main(String[] args) {
        rings();
        ringsRefused();
        anew();
        anewInRows();
        held();
        reading();
        readingRefused();
        readingOfForms();
        lumps();
        lumpsRefused();
        aside();
        lumpIs();
        ringIs();
        CHECKS.finish();
    }

    private static void rings() {
        ClaySeals x = new ClaySeals();
        CHECKS.due("ring() 0", Checks.ring(x, "#..............."), 0);
        CHECKS.due("count(5) after ring()", x.count(5), 0);
        CHECKS.due("ring() 1", Checks.ring(x, ".*15#"), 1);
        CHECKS.due("ring() 2", Checks.ring(x, ".#*2..#*4.*7"), 2);
        CHECKS.due("marks 0", x.ringIs(0, 0), 1);
        CHECKS.due("marks 1", x.ringIs(1, 0), 1 << 15);
        CHECKS.due("marks 2", x.ringIs(2, 0), 0b111100110);
        CHECKS.due("ring() 3, like another", Checks.ring(x, ".*15#"), 3);
        CHECKS.due("ring() 4, without marks", Checks.ring(x, ".*16"), 4);
        CHECKS.due("ring() 5, all marks", Checks.ring(x, "#*16"), 5);
        CHECKS.due("marks 4", x.ringIs(4, 0), 0);
        CHECKS.due("marks 5", x.ringIs(5, 0), 65535);
        CHECKS.due("count(0)", x.count(0), 6);
        CHECKS.due("count(1)", x.count(1), 6);
        Checks.line(x, "#*16");
        CHECKS.refused(x, "ring() 6", x::ring, -4);
        CHECKS.due("count(5) after FULL", x.count(5), 4);
        Checks.line(x, "#*15");
        CHECKS.refused(x, "ring() 6 with a fault: NOT goes ahead of FULL", x::ring, -3);
        Checks.line(x, "#*15?");
        CHECKS.refused(x, "ring() 6 with a ?: NOT goes ahead of FULL", x::ring, -3);
    }

    private static void ringsRefused() {
        ClaySeals x = new ClaySeals();
        String[] wrong = {"", "#", "#*15", "#*17", "#*16.", "?*16", "#*15?", "?#*15", "#*7?*2#*7", "x#*16"};
        for (String text : wrong) {
            Checks.line(x, text);
            CHECKS.refused(x, "ring() by " + text, x::ring, -3);
            CHECKS.due("count(5) after it", x.count(5), text.length());
        }
        CHECKS.due("count(0)", x.count(0), 0);
    }

    private static ClaySeals withRings(int many) {
        ClaySeals x = new ClaySeals();
        for (int k = 0; k < many; k++) {
            Checks.ring(x, "#*16");
        }
        return x;
    }

    private static void anew() {
        ClaySeals x = withRings(4);
        int[][] bad = {{0, 0, 5}, {1, 1, 5}, {0, 1, 5}, {2, 3, 5}, {4, 0, 5}, {1, 4, 5}, {-1, 0, 5}, {1, -1, 5},
            {1, 0, -1}, {1, 0, 60}, {LEAST, 0, 5}, {MOST, 0, 5}, {1, LEAST, 5}, {1, 0, LEAST}, {1, 0, MOST}};
        for (int[] b : bad) {
            CHECKS.refused(x, "anew(" + b[0] + ", " + b[1] + ", " + b[2] + ")", () -> x.anew(b[0], b[1], b[2]), -2);
        }
        CHECKS.due("anew(1, 0, 0)", x.anew(1, 0, 0), 1);
        CHECKS.due("anew(3, 2, 59)", x.anew(3, 2, 59), 1);
        CHECKS.due("ringIs(1, 1)", x.ringIs(1, 1), 0);
        CHECKS.due("ringIs(1, 2)", x.ringIs(1, 2), 0);
        CHECKS.due("ringIs(3, 1)", x.ringIs(3, 1), 2);
        CHECKS.due("ringIs(3, 2)", x.ringIs(3, 2), 59);
        CHECKS.due("ringIs(0, 1)", x.ringIs(0, 1), -1);
        CHECKS.due("count(1)", x.count(1), 2);
        CHECKS.refused(x, "anew of one that is of one", () -> x.anew(1, 0, 7), -3);
        CHECKS.refused(x, "anew of one that is of another", () -> x.anew(3, 1, 7), -3);
        CHECKS.refused(x, "anew of one of which there is one", () -> x.anew(2, 0, 7), -3);
        CHECKS.refused(x, "anew: BAD goes ahead of NOT", () -> x.anew(1, 0, 60), -2);
        CHECKS.due("anew(2, 1, 3)", x.anew(2, 1, 3), 1);
    }

    /** One cut anew may be cut anew itself: all of them are one STONE. */
    private static void anewInRows() {
        ClaySeals x = withRings(6);
        CHECKS.due("anew(5, 3, 40)", x.anew(5, 3, 40), 1);
        CHECKS.due("anew(3, 2, 20)", x.anew(3, 2, 20), 1);
        CHECKS.due("anew(4, 1, 20)", x.anew(4, 1, 20), 1);
        int[] stones = {0, 1, 2, 2, 1, 2};
        for (int r = 0; r < 6; r++) {
            CHECKS.due("ringIs(" + r + ", 3)", x.ringIs(r, 3), stones[r]);
        }
        CHECKS.due("count(1)", x.count(1), 3);
        CHECKS.due("anew(2, 0, 1)", x.anew(2, 0, 1), 1);
        CHECKS.due("ringIs(5, 3)", x.ringIs(5, 3), 0);
        CHECKS.due("count(1) then", x.count(1), 2);
    }

    private static void held() {
        ClaySeals x = withRings(2);
        int[][] bad = {{2, 0, 0, 0}, {-1, 0, 0, 0}, {LEAST, 0, 0, 0}, {MOST, 0, 0, 0}, {0, 8, 0, 0}, {0, -1, 0, 0},
            {0, MOST, 0, 0}, {0, 0, -1, 0}, {0, 0, 0, 60}, {0, 0, 60, 60}, {0, 0, 5, 4}, {0, 0, 0, -1},
            {0, 0, LEAST, 0}, {0, 0, 0, MOST}};
        for (int[] b : bad) {
            CHECKS.refused(x, "held(" + b[0] + ", " + b[1] + ", " + b[2] + ", " + b[3] + ")",
                () -> x.held(b[0], b[1], b[2], b[3]), -2);
        }
        for (int k = 0; k < 12; k++) {
            CHECKS.due("held " + k, x.held(k == 5 ? 0 : 1, k % 8, k == 7 ? 59 : 0, k == 8 ? 0 : 59), k);
            CHECKS.due("count(4)", x.count(4), k + 1);
        }
        CHECKS.due("ringIs(0, 4)", x.ringIs(0, 4), 1);
        CHECKS.due("ringIs(1, 4)", x.ringIs(1, 4), 11);
        CHECKS.refused(x, "held 12", () -> x.held(0, 0, 0, 59), -4);
        CHECKS.refused(x, "held 12: BAD goes ahead of FULL", () -> x.held(0, 0, 5, 4), -2);
        CHECKS.due("count(4)", x.count(4), 12);
    }

    private static void fill(ClaySeals x, int s, int form, int... items) {
        x.sheet(s, form, items.length);
        for (int i = 0; i < items.length; i++) {
            x.put(s, form, i, items[i]);
        }
    }

    private static void reading() {
        ClaySeals x = withRings(3);
        fill(x, 0, 2, 0, 1, 2, 3, 1, 2, 3, 4, 2, 3, 4);
        CHECKS.due("read(0) of two and a part", x.read(0), 2);
        CHECKS.due("count(4)", x.count(4), 2);
        CHECKS.due("ringIs(0, 4)", x.ringIs(0, 4), 1);
        CHECKS.due("ringIs(1, 4)", x.ringIs(1, 4), 1);
        CHECKS.due("ringIs(2, 4)", x.ringIs(2, 4), 0);
        CHECKS.due("get(0, 2, 3) after read()", x.get(0, 2, 3), 3);
        CHECKS.due("read(0) again", x.read(0), 2);
        CHECKS.due("count(4) again", x.count(4), 4);
        fill(x, 1, 2, 2, 7, 0, 59, 2, 8, 0, 59, 2, 0, 0, 59);
        CHECKS.due("read(1) up to a wrong PERSON", x.read(1), 1);
        CHECKS.due("count(4)", x.count(4), 5);
        fill(x, 1, 2, 3, 0, 0, 0, 2, 0, 0, 59);
        CHECKS.due("read(1) of a wrong RING", x.read(1), 0);
        fill(x, 1, 2, 2, 0, 9, 8);
        CHECKS.due("read(1) of wrong DAYS", x.read(1), 0);
        fill(x, 1, 2, 2, 0, 9);
        CHECKS.due("read(1) of a part", x.read(1), 0);
        fill(x, 1, 2, 2, 0, 9, 20);
        fill(x, 1, 2, 2, 0, 9);
        CHECKS.due("read(1) of a part of what was whole", x.read(1), 0);
        x.sheet(1, 2, 0);
        CHECKS.due("read(1) of nothing", x.read(1), 0);
        CHECKS.due("count(4)", x.count(4), 5);
        x.sheet(2, 1, 48);
        CHECKS.due("read(2) up to FULL", x.read(2), 7);
        CHECKS.due("count(4)", x.count(4), 12);
        CHECKS.due("read(2) when FULL", x.read(2), 0);
        CHECKS.due("count(8)", x.count(8), 0);
        ClaySeals y = withRings(1);
        y.sheet(3, 0, 48);
        CHECKS.due("read(3) of 48 items", y.read(3), 12);
    }

    private static void readingRefused() {
        ClaySeals x = withRings(1);
        int[] bad = {-1, 4, LEAST, MOST};
        for (int s : bad) {
            CHECKS.refused(x, "read(" + s + ")", () -> x.read(s), -2);
        }
        for (int s = 0; s < 4; s++) {
            int lost = s;
            CHECKS.refused(x, "read(" + s + ") of one LOST", () -> x.read(lost), -11);
        }
    }

    /** What a SHEET kept counts, not what was put: 256 is 0 as a byte. */
    private static void readingOfForms() {
        ClaySeals x = withRings(1);
        fill(x, 0, 0, 256, 257, 258, 259);
        CHECKS.due("read(0) of bytes", x.read(0), 1);
        fill(x, 1, 1, 65536, 65537, 65538, 65539);
        CHECKS.due("read(1) of shorts", x.read(1), 1);
        fill(x, 2, 2, 65536, 65537, 65538, 65539);
        CHECKS.due("read(2) of ints", x.read(2), 0);
        Checks.lump(x, "#*16", 0, 1);
        CHECKS.due("HELD from DAY 2 on, the LUMP is of DAYS 0, 1", x.can(0, 0), 0);
        Checks.lump(x, "#*16", 3, 3);
        CHECKS.due("HELD to DAY 3", x.can(1, 0), 15);
        CHECKS.due("pressed() by 1", x.aside(1) + x.pressed(1), 2);
    }

    private static void lumps() {
        ClaySeals x = new ClaySeals();
        for (int k = 0; k < 12; k++) {
            CHECKS.due("lump " + k, Checks.lump(x, "#*3.*3?*10", k, 59, k % 4, 3 - k % 4), k);
            CHECKS.due("count(2)", x.count(2), k + 1);
            CHECKS.due("count(6)", x.count(6), 10 * (k + 1));
            CHECKS.due("count(5)", x.count(5), 0);
        }
        Checks.line(x, "#*16");
        CHECKS.refused(x, "lump 12", () -> x.lump(0, 0, 0, 0), -4);
        CHECKS.refused(x, "lump 12: BAD goes ahead of FULL", () -> x.lump(0, 60, 0, 0), -2);
        CHECKS.due("count(5) after FULL", x.count(5), 4);
        x.type('#');
        CHECKS.refused(x, "lump 12: NOT goes ahead of FULL", () -> x.lump(0, 0, 0, 0), -3);
    }

    private static void lumpsRefused() {
        ClaySeals x = new ClaySeals();
        int[][] bad = {{-1, 0, 0, 0}, {0, -1, 0, 0}, {0, 60, 0, 0}, {60, 60, 0, 0}, {5, 4, 0, 0}, {LEAST, 0, 0, 0},
            {0, MOST, 0, 0}, {0, 0, -1, 0}, {0, 0, 4, 0}, {0, 0, LEAST, 0}, {0, 0, 0, -1}, {0, 0, 0, 4},
            {0, 0, 0, MOST}};
        String[] texts = {"#*16", "#*15"};
        for (String text : texts) {
            Checks.line(x, text);
            for (int[] b : bad) {
                CHECKS.refused(x, "lump(" + b[0] + ", " + b[1] + ", " + b[2] + ", " + b[3] + ") by " + text,
                    () -> x.lump(b[0], b[1], b[2], b[3]), -2);
            }
        }
        CHECKS.refused(x, "lump() by 15 signs", () -> x.lump(0, 0, 0, 0), -3);
        CHECKS.due("count(5)", x.count(5), 4);
        x.wipe();
        CHECKS.refused(x, "lump() by nothing", () -> x.lump(0, 0, 0, 0), -3);
        CHECKS.due("lump(0, 0, 0, 0)", Checks.lump(x, "?*16", 0, 0, 0, 0), 0);
        CHECKS.due("lump(59, 59, 3, 3)", Checks.lump(x, "?*16", 59, 59, 3, 3), 1);
        CHECKS.due("lump(0, 59, 1, 2)", Checks.lump(x, "#.?#.?#.?#.?#.?#", 0, 59, 1, 2), 2);
    }

    private static void aside() {
        ClaySeals x = new ClaySeals();
        for (int k = 0; k < 3; k++) {
            Checks.lump(x, "#*16", 0, 59);
        }
        CHECKS.due("none are ASIDE at first", x.count(3), 0);
        CHECKS.due("aside(5)", x.aside(5), 0);
        CHECKS.due("count(3)", x.count(3), 5);
        int[] bad = {8, 9, 15, -1, LEAST, MOST, 1 << 12, 1 << 31, -8};
        for (int bits : bad) {
            CHECKS.refused(x, "aside(" + bits + ")", () -> x.aside(bits), -2);
        }
        CHECKS.due("aside(7)", x.aside(7), 5);
        CHECKS.due("aside(2)", x.aside(2), 7);
        int[] is = {0, 1, 0};
        for (int k = 0; k < 3; k++) {
            CHECKS.due("lumpIs(" + k + ", 6)", x.lumpIs(k, 6), is[k]);
        }
        Checks.lump(x, "#*16", 0, 59);
        CHECKS.due("a new LUMP is not ASIDE", x.lumpIs(3, 6), 0);
        CHECKS.due("count(3) is as it was", x.count(3), 2);
        CHECKS.due("aside(15)", x.aside(15), 2);
        CHECKS.due("aside(0)", x.aside(0), 15);
        for (int k = 4; k < 12; k++) {
            Checks.lump(x, "#*16", 0, 59);
        }
        CHECKS.due("aside(4095) of 12", x.aside(4095), 0);
        CHECKS.refused(x, "aside(4096) of 12", () -> x.aside(4096), -2);
        CHECKS.due("aside(2048)", x.aside(2048), 4095);
    }

    private static void lumpIs() {
        ClaySeals x = new ClaySeals();
        Checks.lump(x, "#..?...?....?.#.", 7, 31, 2, 3);
        Checks.lump(x, "?*15#", 59, 59, 1, 0);
        x.aside(2);
        int[] first = {1 | 1 << 14, 1 << 3 | 1 << 7 | 1 << 12, 7, 31, 2, 3, 0};
        int[] second = {1 << 15, (1 << 15) - 1, 59, 59, 1, 0, 1};
        for (int what = 0; what < 7; what++) {
            CHECKS.due("lumpIs(0, " + what + ")", x.lumpIs(0, what), first[what]);
            CHECKS.due("lumpIs(1, " + what + ")", x.lumpIs(1, what), second[what]);
        }
        int[][] bad = {{0, 7}, {0, -1}, {2, 0}, {-1, 0}, {0, LEAST}, {0, MOST}, {LEAST, 0}, {MOST, 0}};
        for (int[] b : bad) {
            CHECKS.refused(x, "lumpIs(" + b[0] + ", " + b[1] + ")", () -> x.lumpIs(b[0], b[1]), -2);
        }
    }

    private static void ringIs() {
        ClaySeals x = new ClaySeals();
        Checks.ring(x, "#..#...........#");
        Checks.ring(x, ".*16");
        x.anew(1, 0, 33);
        x.held(1, 4, 0, 59);
        x.held(1, 4, 0, 59);
        int[] first = {1 | 1 << 3 | 1 << 15, -1, -1, 0, 0};
        int[] second = {0, 0, 33, 0, 2};
        for (int what = 0; what < 5; what++) {
            CHECKS.due("ringIs(0, " + what + ")", x.ringIs(0, what), first[what]);
            CHECKS.due("ringIs(1, " + what + ")", x.ringIs(1, what), second[what]);
        }
        int[][] bad = {{0, 5}, {0, -1}, {2, 0}, {-1, 0}, {0, LEAST}, {0, MOST}, {LEAST, 0}, {MOST, 0}};
        for (int[] b : bad) {
            CHECKS.refused(x, "ringIs(" + b[0] + ", " + b[1] + ")", () -> x.ringIs(b[0], b[1]), -2);
        }
    }
}
