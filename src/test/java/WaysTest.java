/** Promises 16 to 23: ways, stones, best, may, sure, pressed, empty, leftOut. */
public final class WaysTest {
    private static final Checks CHECKS = new Checks();
    private static final int LEAST = Integer.MIN_VALUE;
    private static final int MOST = Integer.MAX_VALUE;

    public static void main(String[] args) {
        noLumps();
        oneLump();
        likeTurns();
        unlikeTurns();
        twoThatDoNotAgree();
        threeThatDoNotAgree();
        daysOfTwo();
        daysOfThree();
        daysWithHoles();
        bestIsTheFirstOfTheFewest();
        stonesOfAnew();
        mayAndSure();
        pressed();
        pressedOfAnew();
        empty();
        leftOut();
        leftOutOfMany();
        asideIsNotLed();
        changesAreSeen();
        firstTwentyThousand();
        justTwentyThousand();
        tooMany();
        refused();
        CHECKS.finish();
    }

    private static void due(ClaySeals x, String of, int ways, int stones, int sure, int leftOut) {
        CHECKS.due(of + ": ways()", x.ways(), ways);
        CHECKS.due(of + ": stones()", x.stones(), stones);
        CHECKS.due(of + ": sure()", x.sure(), sure);
        CHECKS.due(of + ": leftOut()", x.leftOut(), leftOut);
    }

    private static void dueOf(ClaySeals x, String of, int lump, int ring, int turned, int may) {
        CHECKS.due(of + ": best(" + lump + ", 0)", x.best(lump, 0), ring);
        CHECKS.due(of + ": best(" + lump + ", 1)", x.best(lump, 1), turned);
        CHECKS.due(of + ": may(" + lump + ")", x.may(lump), may);
    }

    private static ClaySeals withRings(int many, String picture) {
        ClaySeals x = new ClaySeals();
        for (int k = 0; k < many; k++) {
            Checks.ring(x, picture);
        }
        return x;
    }

    private static void noLumps() {
        ClaySeals x = new ClaySeals();
        due(x, "nothing", 1, 0, 0, 0);
        CHECKS.due("nothing: empty()", x.empty(), 0);
        Checks.ring(x, "#*16");
        due(x, "a RING alone", 1, 0, 0, 0);
        x.held(0, 0, 0, 59);
        x.held(0, 1, 0, 59);
        CHECKS.due("HELD without LUMPS: empty()", x.empty(), 3);
    }

    private static void oneLump() {
        ClaySeals x = new ClaySeals();
        Checks.lump(x, "#.*15", 0, 59);
        due(x, "no RING", 0, -3, -3, 1);
        dueOf(x, "no RING", 0, -3, -3, -3);
        CHECKS.due("no RING: pressed()", x.pressed(0), -3);
        CHECKS.due("no RING: empty()", x.empty(), -3);
        Checks.ring(x, ".*16");
        due(x, "a RING that it can not be of", 0, -3, -3, 1);
        Checks.ring(x, ".*12#.*3");
        due(x, "one RING, TURNED once", 1, 1, 1, 0);
        dueOf(x, "one RING, TURNED once", 0, 1, 1, 2);
        Checks.ring(x, "#*16");
        due(x, "a RING with marks more", 5, 1, 0, 0);
        dueOf(x, "a RING with marks more", 0, 1, 1, 6);
    }

    private static void likeTurns() {
        String[] rings = {"#*16", ".*16", "#..#.*8#..#", "#..#.*8#..#", "##.*12##"};
        String[] lumps = {"?*16", ".*16", "#..#.*8#..#", "#??#?*8#??#", "##.*12##"};
        int[] turns = {15, 15, 15, 15, 5};
        for (int k = 0; k < rings.length; k++) {
            ClaySeals x = withRings(1, rings[k]);
            Checks.lump(x, lumps[k], 0, 59);
            CHECKS.due("like turns " + k + ": can()", x.can(0, 0), turns[k]);
            due(x, "like turns " + k, 1, 1, 1, 0);
            dueOf(x, "like turns " + k, 0, 0, 0, 1);
        }
        ClaySeals x = withRings(1, "##.*12##");
        Checks.lump(x, "???#???##???#???", 0, 59);
        CHECKS.due("like ones, TURNED once and three times: can()", x.can(0, 0), 10);
        due(x, "like ones, TURNED once and three times", 1, 1, 1, 0);
        dueOf(x, "like ones, TURNED once and three times", 0, 0, 1, 1);
    }

    private static void unlikeTurns() {
        String[] rings = {"#*16", "#*16", "##.*12##", "#*16", "#*16"};
        String[] lumps = {"#?*15", ".?*15", "...#...#........", "#*8.*8", "##.*12##"};
        int[] ways = {4, 4, 2, 4, 2};
        int[] turned = {0, 0, 1, 0, 0};
        for (int k = 0; k < rings.length; k++) {
            ClaySeals x = withRings(1, rings[k]);
            Checks.lump(x, lumps[k], 0, 59);
            due(x, "unlike turns " + k, ways[k], 1, 1, 0);
            dueOf(x, "unlike turns " + k, 0, 0, turned[k], 1);
        }
    }

    private static void twoThatDoNotAgree() {
        ClaySeals x = withRings(1, "##.*14");
        Checks.lump(x, "#.?*14", 0, 59);
        due(x, "one", 1, 1, 1, 0);
        Checks.lump(x, ".#?*14", 0, 59);
        due(x, "each is EARLIER", 0, -3, -3, 1);
        dueOf(x, "each is EARLIER", 1, -3, -3, -3);
        Checks.ring(x, "##.*14");
        due(x, "two RINGS", 2, 2, 0, 0);
        dueOf(x, "two RINGS", 0, 0, 0, 3);
        dueOf(x, "two RINGS", 1, 1, 0, 3);
    }

    /** Each is EARLIER than the next one, and the last one than the first. */
    private static void threeThatDoNotAgree() {
        ClaySeals x = withRings(1, "###.*13");
        Checks.lump(x, "#.?*14", 0, 59);
        Checks.lump(x, "?#.?*13", 0, 59);
        due(x, "two of three", 1, 1, 3, 0);
        Checks.lump(x, ".?#?*13", 0, 59);
        due(x, "three round", 0, -3, -3, 1);
        Checks.ring(x, "###.*13");
        due(x, "three round, two RINGS", 6, 2, 0, 0);
        dueOf(x, "three round, two RINGS", 0, 0, 0, 3);
        dueOf(x, "three round, two RINGS", 1, 0, 0, 3);
        dueOf(x, "three round, two RINGS", 2, 1, 0, 3);
        ClaySeals y = withRings(1, "###..#.*10");
        Checks.lump(y, "#.?*14", 0, 59);
        Checks.lump(y, "?#.?*13", 0, 59);
        Checks.lump(y, "??#??.?*10", 0, 59);
        due(y, "three of four", 1, 1, 7, 0);
        Checks.lump(y, ".????#?*10", 0, 59);
        due(y, "four round", 0, -3, -3, 1);
    }

    private static void daysOfTwo() {
        int[][] days = {{10, 20, 10, 20, 1}, {10, 20, 5, 9, 0}, {10, 20, 5, 10, 1}, {10, 20, 0, 59, 1},
            {59, 59, 59, 59, 1}, {59, 59, 0, 58, 0}, {0, 0, 0, 0, 1}, {1, 1, 0, 0, 0}, {0, 5, 30, 40, 1}};
        for (int[] d : days) {
            ClaySeals x = withRings(1, "##.*14");
            Checks.lump(x, "##?*14", d[0], d[1]);
            Checks.lump(x, "#.?*14", d[2], d[3]);
            CHECKS.due("EARLIER " + d[0] + " to " + d[1] + ", then " + d[2] + " to " + d[3], x.ways(), d[4]);
            ClaySeals y = withRings(1, "##.*14");
            Checks.lump(y, "#.?*14", d[2], d[3]);
            Checks.lump(y, "##?*14", d[0], d[1]);
            CHECKS.due("the same, told the other way", y.ways(), d[4]);
            ClaySeals z = withRings(1, "##.*14");
            Checks.lump(z, "##?*14", d[0], d[1]);
            Checks.lump(z, "##?*14", d[2], d[3]);
            CHECKS.due("the same, none EARLIER", z.ways(), 1);
        }
    }

    /** The first and the third are in no order but by the one between them. */
    private static void daysOfThree() {
        int[][] orders = {{0, 1, 2}, {0, 2, 1}, {1, 0, 2}, {1, 2, 0}, {2, 0, 1}, {2, 1, 0}};
        String[] texts = {"#?*15", ".#?*14", "?.#?*13"};
        int[][] from = {{20, 0, 0}, {20, 0, 0}, {20, 30, 0}, {20, 0, 21}};
        int[][] to = {{20, 59, 19}, {20, 59, 20}, {20, 40, 29}, {20, 19, 59}};
        int[] ways = {0, 1, 0, 0};
        for (int k = 0; k < ways.length; k++) {
            for (int[] order : orders) {
                ClaySeals x = withRings(1, "###.*13");
                for (int lump : order) {
                    Checks.lump(x, texts[lump], from[k][lump], to[k][lump]);
                }
                CHECKS.due("DAYS of three, " + k, x.ways(), ways[k]);
            }
        }
    }

    private static void daysWithHoles() {
        int[][] days = {{0, 25, 21, 59, 1}, {11, 25, 0, 19, 0}, {11, 20, 0, 20, 1}, {0, 59, 0, 0, 1},
            {1, 19, 0, 19, 1}, {11, 20, 10, 19, 0}, {25, 59, 0, 30, 1}, {26, 59, 0, 25, 0}};
        for (int[] d : days) {
            ClaySeals x = withRings(1, "##.*14");
            x.held(0, 0, 20, 30);
            x.held(0, 1, 0, 10);
            Checks.lump(x, "##?*14", d[0], d[1]);
            Checks.lump(x, "#.?*14", d[2], d[3]);
            CHECKS.due("HELD 0 to 10, 20 to 30: " + d[0] + " to " + d[1] + ", then " + d[2] + " to " + d[3],
                x.ways(), d[4]);
        }
        ClaySeals y = withRings(2, "##.*14");
        y.anew(1, 0, 30);
        Checks.lump(y, "##?*14", 25, 35);
        Checks.lump(y, "#.?*14", 20, 31);
        due(y, "CUT ANEW between", 4, 1, 3, 0);
        Checks.lump(y, "#.?*14", 0, 24);
        due(y, "CUT ANEW, an old one", 2, 1, 7, 0);
        dueOf(y, "CUT ANEW, an old one", 0, 1, 0, 2);
        dueOf(y, "CUT ANEW, an old one", 1, 0, 0, 3);
        dueOf(y, "CUT ANEW, an old one", 2, 0, 0, 1);
    }

    private static void bestIsTheFirstOfTheFewest() {
        ClaySeals x = new ClaySeals();
        Checks.ring(x, "#.*15");
        Checks.ring(x, "##.*14");
        Checks.ring(x, "##.*14");
        Checks.lump(x, "#.*15", 0, 59);
        Checks.lump(x, "?#.*14", 0, 59);
        due(x, "the second is not of RING 0", 6, 1, 0, 0);
        dueOf(x, "the second is not of RING 0", 0, 1, 0, 7);
        dueOf(x, "the second is not of RING 0", 1, 1, 0, 6);
    }

    private static void stonesOfAnew() {
        ClaySeals x = new ClaySeals();
        Checks.ring(x, "#.*15");
        Checks.ring(x, ".....#..........");
        Checks.ring(x, "##.*14");
        x.anew(2, 0, 0);
        Checks.lump(x, "#??????????????.", 0, 0);
        Checks.lump(x, "?????#??????????", 0, 0);
        Checks.lump(x, "##?????????????.", 0, 0);
        due(x, "two STONES, three RINGS", 2, 2, 7, 0);
        dueOf(x, "two STONES, three RINGS", 0, 0, 0, 5);
        dueOf(x, "two STONES, three RINGS", 1, 1, 0, 2);
        dueOf(x, "two STONES, three RINGS", 2, 2, 0, 4);
    }

    private static void mayAndSure() {
        ClaySeals x = withRings(3, "##.*14");
        x.anew(1, 0, 30);
        Checks.lump(x, "##?*14", 0, 59);
        Checks.lump(x, "##?*14", 30, 30);
        Checks.lump(x, "##?*14", 31, 31);
        x.held(2, 0, 40, 59);
        due(x, "one STONE of two RINGS", 6, 1, 6, 0);
        CHECKS.due("may(0)", x.may(0), 7);
        CHECKS.due("may(1)", x.may(1), 3);
        CHECKS.due("may(2)", x.may(2), 2);
        dueOf(x, "one STONE of two RINGS", 0, 0, 0, 7);
        dueOf(x, "one STONE of two RINGS", 1, 0, 0, 3);
        dueOf(x, "one STONE of two RINGS", 2, 1, 0, 2);
        CHECKS.due("aside(4)", x.aside(4), 0);
        due(x, "without the third", 6, 1, 2, 0);
        dueOf(x, "without the third", 2, -1, -1, 0);
    }

    private static void pressed() {
        ClaySeals x = withRings(2, "##.*14");
        Checks.lump(x, "##?*14", 5, 10);
        Checks.lump(x, "##?*14", 20, 30);
        CHECKS.due("pressed() without HELD", x.pressed(0), 0);
        x.held(0, 7, 0, 5);
        x.held(0, 6, 10, 20);
        x.held(1, 0, 11, 19);
        x.held(1, 1, 30, 59);
        x.held(1, 3, 25, 25);
        CHECKS.due("pressed(0)", x.pressed(0), 1 << 7 | 1 << 6);
        CHECKS.due("pressed(1)", x.pressed(1), 1 << 6 | 1 << 1 | 1 << 3);
        x.aside(2);
        CHECKS.due("pressed() of one ASIDE", x.pressed(1), 0);
        CHECKS.due("pressed() of the other", x.pressed(0), 1 << 7 | 1 << 6);
    }

    /** Who HELD a RING only when it had been cut anew did not press it; nor by a RING it may not be of. */
    private static void pressedOfAnew() {
        ClaySeals x = withRings(2, "##.*14");
        x.anew(1, 0, 30);
        x.held(0, 1, 0, 29);
        x.held(0, 2, 31, 59);
        x.held(1, 3, 0, 29);
        x.held(1, 4, 31, 59);
        Checks.lump(x, "##?*14", 29, 31);
        CHECKS.due("pressed(0)", x.pressed(0), 1 << 1 | 1 << 4);
        CHECKS.due("empty()", x.empty(), 1 << 1 | 1 << 2);
        Checks.ring(x, "#.*15");
        x.held(2, 5, 0, 59);
        CHECKS.due("pressed(0) with a RING that it is not of", x.pressed(0), 1 << 1 | 1 << 4);
        CHECKS.due("empty() with it", x.empty(), 1 << 1 | 1 << 2 | 1 << 4);
    }

    private static void empty() {
        ClaySeals x = withRings(2, "##.*14");
        Checks.lump(x, "##?*14", 5, 10);
        x.held(0, 0, 0, 4);
        CHECKS.due("the other RING has no HELD", x.ways(), 1);
        CHECKS.due("empty() of one ahead", x.empty(), 1);
        x.held(0, 0, 11, 59);
        CHECKS.due("empty() of one behind, too", x.empty(), 3);
        x.held(0, 0, 10, 59);
        CHECKS.due("empty() of one on the last DAY", x.empty(), 3);
        x.held(1, 0, 0, 5);
        CHECKS.due("empty() of one on the first DAY", x.empty(), 3);
        x.held(1, 0, 20, 30);
        CHECKS.due("empty() of a fifth", x.empty(), 3 | 16);
        Checks.lump(x, "##?*14", 25, 25);
        CHECKS.due("empty() with another LUMP", x.empty(), 1);
        x.aside(2);
        CHECKS.due("empty() with that ASIDE", x.empty(), 3 | 16);
        for (int k = 5; k < 12; k++) {
            x.held(1, k % 8, 40, 59);
        }
        CHECKS.due("empty() of 12", x.empty(), 4095 & ~4 & ~8);
    }

    private static void leftOut() {
        ClaySeals x = withRings(1, "##.*14");
        Checks.lump(x, "#.?*14", 0, 59);
        Checks.lump(x, "#.?*14", 0, 59);
        Checks.lump(x, ".#?*14", 0, 59);
        CHECKS.due("the third against two", x.leftOut(), 4);
        Checks.lump(x, ".#?*14", 0, 59);
        CHECKS.due("two against two", x.leftOut(), 3);
        x.aside(1);
        CHECKS.due("two against one", x.leftOut(), 2);
        x.aside(0);
        Checks.lump(x, "??#?*13", 0, 59);
        CHECKS.due("one more that can be of none", x.leftOut(), 3 | 16);
        CHECKS.due("ways()", x.ways(), 0);
        Checks.ring(x, "##.*14");
        CHECKS.due("a second RING", x.leftOut(), 16);
        Checks.ring(x, "#*16");
        CHECKS.due("a RING for all", x.leftOut(), 0);
        ClaySeals y = withRings(1, "##.*14");
        Checks.lump(y, "##?*14", 20, 20);
        Checks.lump(y, "#.?*14", 10, 10);
        CHECKS.due("by DAYS", y.leftOut(), 1);
        Checks.lump(y, "##?*14", 0, 10);
        CHECKS.due("by DAYS, with another", y.leftOut(), 1);
        Checks.lump(y, "##?*14", 11, 11);
        CHECKS.due("by DAYS, two or one", y.leftOut(), 2);
    }

    private static void leftOutOfMany() {
        ClaySeals x = new ClaySeals();
        for (int k = 0; k < 8; k++) {
            Checks.lump(x, "#*16", 0, 59);
        }
        CHECKS.due("8 without RINGS", x.leftOut(), 255);
        for (int k = 8; k < 12; k++) {
            Checks.lump(x, "#*16", 0, 59);
        }
        CHECKS.due("12", x.leftOut(), -4);
        x.aside(15);
        CHECKS.due("the last 8 of 12", x.leftOut(), 0xff0);
        x.aside(0x555);
        CHECKS.due("each second of 12", x.leftOut(), 0xaaa);
        x.aside(4095);
        CHECKS.due("none of 12", x.leftOut(), 0);
        CHECKS.due("none of 12: ways()", x.ways(), 1);
    }

    private static void asideIsNotLed() {
        ClaySeals x = withRings(1, "##.*14");
        Checks.lump(x, "#.?*14", 0, 59);
        Checks.lump(x, ".#?*14", 0, 59);
        x.aside(1);
        due(x, "the first ASIDE", 1, 1, 2, 0);
        dueOf(x, "the first ASIDE", 0, -1, -1, 0);
        dueOf(x, "the first ASIDE", 1, 0, 0, 1);
        x.aside(3);
        due(x, "both ASIDE", 1, 0, 0, 0);
        dueOf(x, "both ASIDE", 1, -1, -1, 0);
        x.aside(0);
        due(x, "none ASIDE", 0, -3, -3, 1);
    }

    private static void changesAreSeen() {
        ClaySeals x = withRings(1, "##.*14");
        Checks.lump(x, "##?*14", 10, 20);
        CHECKS.due("ways()", x.ways(), 1);
        Checks.ring(x, "##.*14");
        CHECKS.due("ways() after ring()", x.ways(), 2);
        x.anew(1, 0, 21);
        CHECKS.due("ways() after anew()", x.ways(), 1);
        x.sheet(0, 0, 4);
        x.put(0, 0, 3, 9);
        CHECKS.due("ways() ahead of read()", x.ways(), 1);
        x.read(0);
        CHECKS.due("ways() after read()", x.ways(), 0);
        x.held(0, 0, 20, 20);
        CHECKS.due("ways() after held()", x.ways(), 1);
        Checks.lump(x, "??#?*13", 0, 59);
        CHECKS.due("ways() after lump()", x.ways(), 0);
        CHECKS.due("least() after lump()", x.least(), 1);
        x.aside(2);
        CHECKS.due("ways() after aside()", x.ways(), 1);
        CHECKS.due("ones() after aside()", x.ones(1), -1);
    }

    private static void firstTwentyThousand() {
        ClaySeals x = withRings(6, "#*16");
        x.held(5, 0, 0, 59);
        x.held(2, 1, 0, 59);
        x.held(3, 2, 0, 59);
        for (int k = 0; k < 8; k++) {
            Checks.lump(x, "?*16", 0, 59);
        }
        due(x, "6 to the 8th", 20000, 1, 3, 0);
        int[] may = {1, 1, 7, 63, 63, 63, 63, 63};
        for (int k = 0; k < 8; k++) {
            dueOf(x, "6 to the 8th", k, 0, 0, may[k]);
        }
        CHECKS.due("pressed(0)", x.pressed(0), 0);
        CHECKS.due("pressed(2)", x.pressed(2), 2);
        CHECKS.due("pressed(3)", x.pressed(3), 7);
        CHECKS.due("empty()", x.empty(), 0);
        CHECKS.due("clean()", x.clean(), 3);
        // The only WAYS with one STONE have all LUMPS of the last RINGS: they are not among the first 20000.
        ClaySeals y = new ClaySeals();
        for (int k = 0; k < 5; k++) {
            Checks.ring(y, "#*16");
        }
        Checks.ring(y, "#*15.");
        y.anew(5, 4, 20);
        for (int k = 0; k < 8; k++) {
            Checks.lump(y, k == 7 ? "#?*15" : "?*16", k == 7 ? 21 : 0, k == 7 ? 21 : 59);
        }
        y.held(0, 0, 0, 20);
        y.held(1, 0, 0, 20);
        y.held(2, 0, 0, 20);
        y.held(3, 0, 0, 20);
        due(y, "the last one is of the last RING", 20000, 2, 0x83, 0);
        dueOf(y, "the last one is of the last RING", 0, 0, 0, 1);
        dueOf(y, "the last one is of the last RING", 7, 5, 0, 32);
    }

    /** 5 to the 4th, times 4, 4 and 2. */
    private static void justTwentyThousand() {
        ClaySeals x = new ClaySeals();
        Checks.ring(x, "#*16");
        Checks.ring(x, "#*16");
        Checks.ring(x, ".*5##..##.*5");
        Checks.ring(x, ".*5##..##.*5");
        Checks.ring(x, ".*16");
        String[] texts = {"?*16", "?*16", "?*16", "?*16", "?*5##??##?*5", "?*5##??##?*5", "#??#?*8#??#"};
        int[] may = {31, 31, 31, 31, 15, 15, 3};
        for (String text : texts) {
            Checks.lump(x, text, 0, 59);
        }
        due(x, "just 20000", 20000, 1, 0, 0);
        for (int k = 0; k < 7; k++) {
            dueOf(x, "just 20000", k, 0, 0, may[k]);
        }
        x.aside(64);
        due(x, "just 10000", 10000, 1, 0, 0);
        x.aside(0);
        Checks.lump(x, "##??#?*11", 0, 59);
        due(x, "the first 20000 of 160000", 20000, 1, 1, 0);
        CHECKS.due("may(0)", x.may(0), 1);
    }

    private static void tooMany() {
        ClaySeals x = withRings(2, "#*16");
        x.held(0, 0, 0, 59);
        for (int k = 0; k < 8; k++) {
            Checks.lump(x, "#*16", 0, 59);
        }
        due(x, "8", 256, 1, 0, 0);
        Checks.lump(x, "#*16", 0, 59);
        due(x, "9", -4, -4, -4, -4);
        dueOf(x, "9", 8, -4, -4, -4);
        CHECKS.due("9: pressed()", x.pressed(0), -4);
        CHECKS.due("9: empty()", x.empty(), -4);
        CHECKS.refused(x, "best(): BAD goes ahead of FULL", () -> x.best(9, 0), -2);
        CHECKS.refused(x, "may(): BAD goes ahead of FULL", () -> x.may(9), -2);
        CHECKS.refused(x, "pressed(): BAD goes ahead of FULL", () -> x.pressed(9), -2);
        x.aside(1);
        due(x, "8 of 9", 256, 1, 0, 0);
        dueOf(x, "8 of 9", 0, -1, -1, 0);
        dueOf(x, "8 of 9", 8, 0, 0, 3);
        Checks.lump(x, "#*16", 0, 59);
        CHECKS.due("9 of 10, best() of one ASIDE", x.best(0, 0), -4);
        CHECKS.due("9 of 10, may() of one ASIDE", x.may(0), -4);
    }

    private static void refused() {
        ClaySeals x = withRings(1, "##.*14");
        Checks.lump(x, "#.?*14", 0, 59);
        for (int k = 0; k < 2; k++) {
            int[] bad = {k + 1, -1, LEAST, MOST};
            for (int lump : bad) {
                CHECKS.refused(x, "best(" + lump + ", 0)", () -> x.best(lump, 0), -2);
                CHECKS.refused(x, "may(" + lump + ")", () -> x.may(lump), -2);
                CHECKS.refused(x, "pressed(" + lump + ")", () -> x.pressed(lump), -2);
            }
            int[] badWhat = {-1, 2, LEAST, MOST};
            for (int what : badWhat) {
                CHECKS.refused(x, "best(0, " + what + ")", () -> x.best(0, what), -2);
            }
            Checks.lump(x, ".#?*14", 0, 59);
        }
        x.aside(1);
        Checks.lump(x, ".?#?*13", 0, 59);
        CHECKS.due("best() of one ASIDE, without a WAY", x.best(0, 0), -3);
        CHECKS.due("may() of one ASIDE, without a WAY", x.may(0), -3);
        CHECKS.due("pressed() of one ASIDE, without a WAY", x.pressed(0), -3);
    }
}
