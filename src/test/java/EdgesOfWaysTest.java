/** The edges that part 2 of DOC.md (CAN BE, WAYS) names, each behind the sentence that names it. */
public final class EdgesOfWaysTest {
    private static final Edges E = new Edges();
    private static final int NONE = Edges.NONE, NOT = Edges.NOT, FULL = Edges.FULL;

    public static void main(String[] args) {
        canBe();
        chippedAndWhole();
        aDayOfIt();
        cellsOfTheRing();
        earlier();
        noneEarlierThanItself();
        daysForAll();
        daysThatTheRingWasPressed();
        eightAtMost();
        toARing();
        withoutLumps();
        inOrder();
        unlikeTurns();
        twentyThousandth();
        oneMoreThanTwentyThousand();
        forAllThatFollows();
        stones();
        best();
        may();
        sure();
        pressed();
        empty();
        leftOut();
        E.finish();
    }

    private static void canBe() {
        E.says("A LUMP CAN BE of a RING, TURNED so often, if each mark that it shows is one of the RING's PICTURE TURNED so");
        ClaySeals x = Edges.with("ring .*16", "ring ##.*14", "ring #*16", "lump ?*16 0 59", "lump .*16 0 59",
            "lump ##.*14 0 59", "lump #.*15 0 59", "lump ###.*13 0 59", "lump ..##?*12 0 59", "lump #*16 0 59");
        E.dueOfEach(x, "can(%, 0)", 15, 15, 0, 0, 0, 0, 0);
        E.dueOfEach(x, "can(%, 1)", 15, 15, 1, 1, 0, 0, 0);
        E.dueOfEach(x, "can(%, 2)", 15, 15, 15, 15, 15, 15, 15);
    }

    private static void chippedAndWhole() {
        E.says("(a cell where it shows none, though the PICTURE has a mark, is CHIPPED; one where it shows the mark is WHOLE),");
        ClaySeals x = Edges.with("ring ##.*14", "lump ##?*14 0 59", "lump #.?*14 0 59", "lump ?*16 0 59",
            "lump .*16 0 59", "lump #?.*14 0 59");
        E.dueOfEach(x, "cells(%, 0, 0, 0)", 0, 2, 0, 3, 0);
        E.dueOfEach(x, "cells(%, 0, 0, 1)", 3, 1, 0, 0, 1);
    }

    private static void aDayOfIt() {
        E.says("and if a DAY of it is one on which the RING was pressed.");
        ClaySeals x = Edges.with("ring #*16", "held(0, 0, 10, 12)", "held(0, 0, 16, 20)", "lump ?*16 0 9",
            "lump ?*16 0 10", "lump ?*16 13 15", "lump ?*16 12 13", "lump ?*16 15 16", "lump ?*16 20 59",
            "lump ?*16 21 59", "lump ?*16 0 59");
        E.dueOfEach(x, "can(%, 0)", 0, 15, 0, 15, 15, 15, 0, 15);
        E.due(x, "cells(0, 0, 0, 0)", NOT);
        E.due(x, "cells(1, 0, 0, 0)", 0);
    }

    private static void cellsOfTheRing() {
        E.says("CELLS of these are told as of the RING (not turned).");
        ClaySeals x = Edges.with("ring .#.*14", "lump .#.*14 0 59", "lump .*7#.*8 0 59", "lump .*14#. 0 59",
            "lump .*8#.*7 0 59", "lump .*16 0 59");
        E.dueOfEach(x, "cells(%, 0, %, 1)", 2, 2, 2, 2);
        E.dueOfEach(x, "cells(4, 0, %, 0)", 2, 2, 2, 2);
    }

    private static void earlier() {
        E.says("Of two LUMPS of one RING (as they are TURNED) the one is EARLIER, if a cell is WHOLE in it that is CHIPPED in"
            + " the other one.");
        ClaySeals x = Edges.with("ring #..#.*8#..#", "lump #?*15 0 59", "lump .?*15 0 59", "lump #??.?*12 0 59",
            "lump .??#?*12 0 59", "lump ?.?*14 0 59");
        E.due(x, "earlier(0, 0, 0, 1, 0)", 1);
        E.due(x, "earlier(0, 1, 0, 0, 0)", 0);
        E.due(x, "earlier(0, 0, 0, 1, 1)", 0);
        E.due(x, "earlier(0, 0, 1, 1, 0)", 0);
        E.due(x, "earlier(0, 0, 3, 1, 3)", 1);
        E.due(x, "earlier(0, 2, 0, 3, 0)", 1);
        E.due(x, "earlier(0, 3, 0, 2, 0)", 1);
        E.due(x, "earlier(0, 0, 0, 4, 0)", 0);
        E.due(x, "earlier(0, 0, 0, 2, 0)", 0);
        E.due(x, "earlier(0, 2, 0, 0, 0)", 0);
    }

    private static void noneEarlierThanItself() {
        E.says("LUMPS of one RING AGREE, if none is EARLIER than itself by going on from one to another,");
        ClaySeals two = Edges.with("ring ##.*14", "lump #.?*14 0 59", "lump .#?*14 0 59");
        E.due(two, "ways()", 0);
        ClaySeals three = Edges.with("ring ###.*13", "lump #.?*14 0 59", "lump ?#.?*13 0 59");
        E.due(three, "ways()", 1);
        Edges.and(three, "lump .?#?*13 0 59");
        E.due(three, "ways()", 0);
        // Each of the eight is EARLIER than the next one, the last one than the first.
        ClaySeals eight = Edges.with("ring #######.###.....", "lump ###???????.????? 0 59", "lump ##.#???????????? 0 59",
            "lump ##?.#??????????? 0 59", "lump ##??.#?????????? 0 59", "lump ##???.#????????? 0 59",
            "lump ##????.?#??????? 0 59", "lump ##??????.#?????? 0 59", "lump ##???????.#????? 0 59");
        E.dueOfEach(eight, "can(%, 0)", 1, 1, 1, 1, 1, 1, 1, 1);
        E.due(eight, "ways()", 0);
        E.due(eight, "leftOut()", 1);
        Edges.and(eight, "aside(128)");
        E.due(eight, "ways()", 1);
    }

    private static void daysForAll() {
        E.says("and there are DAYS for all, each one of its own on which the RING was pressed, such that an EARLIER one's is"
            + " not behind the other one's.");
        String[] days = {"10 20 10 20", "10 20 0 10", "0 0 0 0", "59 59 59 59", "10 20 0 9", "1 1 0 0", "59 59 0 58"};
        int[] ways = {1, 1, 1, 1, 0, 0, 0};
        for (int k = 0; k < days.length; k++) {
            String[] d = days[k].split(" ");
            ClaySeals x = Edges.with("ring ##.*14", "lump ##?*14 " + d[0] + " " + d[1], "lump #.?*14 " + d[2] + " " + d[3]);
            E.due(x, "ways()", ways[k]);
            ClaySeals y = Edges.with("ring ##.*14", "lump #.?*14 " + d[2] + " " + d[3], "lump ##?*14 " + d[0] + " " + d[1]);
            E.due(y, "ways()", ways[k]);
        }
        // The third one must not be ahead of the first, though nothing but the second is between them.
        ClaySeals just = Edges.with("ring ###.*13", "lump #?*15 20 20", "lump .#?*14 0 59", "lump ?.#?*13 0 20");
        E.due(just, "ways()", 1);
        ClaySeals over = Edges.with("ring ###.*13", "lump #?*15 20 20", "lump .#?*14 0 59", "lump ?.#?*13 0 19");
        E.due(over, "ways()", 0);
        ClaySeals between = Edges.with("ring ###.*13", "lump #?*15 0 20", "lump .#?*14 21 59", "lump ?.#?*13 0 20");
        E.due(between, "ways()", 0);
        // Eight may have one DAY for all.
        ClaySeals same = Edges.with("ring ##.*14", "lump ##?*14 59 59 x4", "lump #.?*14 59 59 x4");
        E.due(same, "ways()", 1);
    }

    private static void daysThatTheRingWasPressed() {
        E.says("each one of its own on which the RING was pressed,");
        String[] held = {"ring ##.*14", "held(0, 0, 20, 30)", "held(0, 0, 0, 10)"};
        String[] days = {"11 20 10 20", "11 20 10 19", "11 25 0 19", "10 15 5 12", "26 59 0 25", "26 59 0 26"};
        int[] ways = {1, 0, 0, 1, 0, 1};
        for (int k = 0; k < days.length; k++) {
            String[] d = days[k].split(" ");
            ClaySeals x = Edges.with(held);
            Edges.and(x, "lump ##?*14 " + d[0] + " " + d[1], "lump #.?*14 " + d[2] + " " + d[3]);
            E.due(x, "ways()", ways[k]);
        }
        ClaySeals older = Edges.with("ring ##.*14", "ring .*16", "anew(1, 0, 30)", "lump ##?*14 30 40", "lump #.?*14 0 30");
        E.due(older, "ways()", 1);
        ClaySeals newer = Edges.with("ring .*16", "ring ##.*14", "anew(1, 0, 30)", "lump ##?*14 0 31", "lump #.?*14 0 29");
        E.due(newer, "ways()", 0);
    }

    private static void eightAtMost() {
        E.says("A WAY leads each LUMP that is not ASIDE (8 at most: FULL)");
        ClaySeals x = Edges.with("ring #*16", "ring #*16", "lump ?*16 0 59 x8");
        E.due(x, "ways()", 256);
        Edges.and(x, "lump ?*16 0 59");
        E.dueOfAll(x, FULL, "ways()", "stones()", "best(0, 0)", "may(0)", "sure()", "pressed(0)", "empty()", "leftOut()",
            "clean()");
        Edges.and(x, "aside(256)");
        E.due(x, "ways()", 256);
        E.due(x, "best(8, 0)", NONE);
        Edges.and(x, "lump ?*16 0 59 x3", "aside(3840)");
        E.due(x, "ways()", 256);
        Edges.and(x, "aside(1792)");
        E.due(x, "ways()", FULL);
        Edges.and(x, "aside(4094)");
        E.due(x, "ways()", 2);
    }

    private static void toARing() {
        E.says("to a RING, TURNED so often, that it CAN BE of, such that LUMPS of each RING AGREE");
        ClaySeals x = Edges.with("lump #?*15 0 59");
        E.due(x, "ways()", 0);
        Edges.and(x, "ring .*16");
        E.due(x, "ways()", 0);
        E.due(x, "stones()", NOT);
        Edges.and(x, "ring .#.*14", "ring .*8#.*7");
        E.due(x, "ways()", 0);
        Edges.and(x, "ring .*15#");
        E.due(x, "ways()", 1);
        E.due(x, "best(0, 0)", 3);
        E.due(x, "best(0, 1)", 2);
        Edges.and(x, "lump .??#????????.??. 0 59");
        E.due(x, "ways()", 1);
        E.due(x, "best(1, 0)", 3);
        E.due(x, "best(1, 1)", 3);
        // It is like itself in all turns but of the last RING, whose mark is CHIPPED or not seen.
        Edges.and(x, "lump .?*14. 0 59");
        E.due(x, "ways()", 5);
    }

    private static void withoutLumps() {
        E.says("(without such LUMPS there is one WAY).");
        ClaySeals x = Edges.with();
        E.due(x, "ways()", 1);
        E.due(x, "stones()", 0);
        E.due(x, "sure()", 0);
        E.due(x, "empty()", 0);
        E.due(x, "leftOut()", 0);
        Edges.and(x, "lump #*16 0 59 x12", "aside(4095)");
        E.due(x, "ways()", 1);
        E.due(x, "best(11, 0)", NONE);
        E.due(x, "may(11)", 0);
    }

    private static void inOrder() {
        E.says("WAYS are in order: LUMP by LUMP the lesser RING first, then the less TURNED.");
        ClaySeals apart = Edges.with("ring ##.*14", "ring ##.*14", "lump #.?*14 0 59", "lump .#?*14 0 59");
        E.due(apart, "ways()", 2);
        E.dueOfEach(apart, "best(%, 0)", 0, 1);
        ClaySeals turned = Edges.with("ring .#*15", "lump #?*15 0 59", "lump #?*15 0 59");
        E.due(turned, "ways()", 9);
        E.dueOfEach(turned, "best(%, 1)", 1, 1);
        ClaySeals ringFirst = Edges.with("ring ...#.*12", "ring #.*15", "lump #?*15 0 59");
        E.due(ringFirst, "ways()", 2);
        E.due(ringFirst, "best(0, 0)", 0);
        E.due(ringFirst, "best(0, 1)", 3);
        // Both cannot be not TURNED: the first LUMP less TURNED goes ahead of the second one less TURNED.
        ClaySeals one = Edges.with("ring #..#.*12", "lump #?*15 10 10", "lump .??#?*12 5 5");
        E.due(one, "ways()", 3);
        E.dueOfEach(one, "best(%, 1)", 0, 1);
    }

    private static void unlikeTurns() {
        E.says("Of one LUMP and one RING only the ways to turn it count that leave unlike CHIPPED or WHOLE cells: of like"
            + " ones the least TURNED.");
        String[] rings = {"#*16", "#*16", "#..#.*8#..#", "##.*12##", "#*16", "#*16", "##.*12##", "#*16", ".*16"};
        String[] lumps = {"?*16", "#*16", "?.?*14", "???#???##???#???", "#?*15", ".?*15", "...#...#........", "##.*12##", ".?*15"};
        int[] can = {15, 15, 15, 10, 15, 15, 10, 15, 15};
        int[] ways = {1, 1, 1, 1, 4, 4, 2, 2, 1};
        int[] turned = {0, 0, 0, 1, 0, 0, 1, 0, 0};
        for (int k = 0; k < rings.length; k++) {
            ClaySeals x = Edges.with("ring " + rings[k], "lump " + lumps[k] + " 0 59");
            E.due(x, "can(0, 0)", can[k]);
            E.due(x, "ways()", ways[k]);
            E.due(x, "best(0, 1)", turned[k]);
        }
        ClaySeals two = Edges.with("ring #*16", "ring #*16", "lump ?*16 0 59");
        E.due(two, "ways()", 2);
    }

    /*
     * Cells of a PICTURE go round in four circles when it is TURNED: corners, inner ones, and two on the border.
     * RINGS and LUMPS of whole circles are like themselves in all turns.
     */
    private static final String CORNERS = "#??#????????#??#", INNER = "?????##??##?????", BORDER = "?#?????##?????#?",
        OTHER_BORDER = "??#?#??????#?#??", CORNERS_INNER = "#??#?##??##?#??#", CORNERS_BORDER = "##?#???##???#?##",
        ALL_BUT_OTHER_BORDER = "##?#?######?#?##";

    private static void twentyThousandth() {
        E.says("WAYS: how many; the first 20000 count (for all that follows, too).");
        // 5 * 5 * 5 * 5 * 4 * 4 * 2 WAYS, and only the last of them has one STONE.
        ClaySeals x = Edges.with("ring #*16", "ring ##.#.######.#.##", "ring #.#####..#####.#", "ring #####..##..#####",
            "ring .##.########.##.", "ring #*16", "held(0, 0, 0, 29)", "lump ?*16 30 59", "lump " + CORNERS + " 0 59",
            "lump " + INNER + " 0 59", "lump " + BORDER + " 0 59", "lump " + CORNERS_INNER + " 0 59",
            "lump " + CORNERS_BORDER + " 0 59", "lump #*16 0 59");
        E.due(x, "ways()", 20000);
        E.due(x, "stones()", 1);
        E.dueOfEach(x, "best(%, 0)", 5, 5, 5, 5, 5, 5, 5);
        E.dueOfEach(x, "may(%)", 62, 47, 55, 59, 39, 43, 33);
        Edges.and(x, "aside(64)");
        E.due(x, "ways()", 10000);
        E.dueOfEach(x, "best(%, 0)", 1, 1, 1, 1, 1, 1, NONE);
        // Twice as many: 8000 for each RING that the first LUMP is led to.
        Edges.and(x, "aside(0)", "lump #*16 0 59");
        E.due(x, "ways()", 20000);
        E.due(x, "may(0)", 2 | 4 | 8);
    }

    /** Only the WAY behind the first 20000 has one STONE; in it alone the first LUMP is led to the second RING so far. */
    private static ClaySeals withOneMore() {
        return Edges.with("ring #*16", "ring #*16", "ring ##.#.######.#.##", "ring #..#.##..##.#..#",
            "ring ##.#...##...#.##", "ring .#...######...#.", "held(0, 0, 0, 29)", "lump " + OTHER_BORDER + " 0 59",
            "lump ?*16 30 59 x4", "lump " + CORNERS + " 30 59", "lump " + INNER + " 30 59",
            "lump " + ALL_BUT_OTHER_BORDER + " 30 59");
    }

    private static void oneMoreThanTwentyThousand() {
        E.says("the first 20000 count");
        ClaySeals x = withOneMore();
        E.due(x, "ways()", 20000);
        E.due(x, "stones()", 2);
        E.dueOfEach(x, "best(%, 0)", 0, 1, 1, 1, 1, 1, 1, 1);
        E.dueOfEach(x, "may(%)", 1, 62, 62, 62, 62, 30, 46, 6);
        Edges.and(x, "aside(1)");
        E.due(x, "ways()", 20000);
        E.due(x, "stones()", 1);
        Edges.and(x, "aside(128)");
        E.due(x, "ways()", 20000);
        E.due(x, "may(0)", 3);
        E.due(x, "stones()", 1);
    }

    private static void forAllThatFollows() {
        E.says("(for all that follows, too).");
        ClaySeals x = withOneMore();
        Edges.and(x, "held(1, 2, 30, 59)", "held(1, 3, 0, 29)", "sheet(0, 0, 2)");
        E.due(x, "can(0, 1)", 15);
        E.due(x, "may(0)", 1);
        E.due(x, "sure()", 1);
        E.due(x, "pressed(0)", 1);
        E.due(x, "pressed(1)", 4);
        E.due(x, "empty()", 4);
        E.due(x, "clean()", 1);
        E.due(x, "write(0)", 2);
        E.due(x, "get(0, 0, 0)", 0);
        E.due(x, "leftOut()", 0);
    }

    private static void stones() {
        E.says("STONES of a WAY: how many it has LUMPS of (CUT ANEW ones are one).");
        ClaySeals none = Edges.with("ring #*16");
        E.due(none, "stones()", 0);
        ClaySeals two = Edges.with("ring #*16", "ring #*16", "held(0, 0, 0, 30)", "held(1, 0, 30, 59)", "lump ?*16 0 29",
            "lump ?*16 31 59");
        E.due(two, "stones()", 2);
        Edges.and(two, "anew(1, 0, 30)");
        E.due(two, "stones()", 1);
        E.dueOfEach(two, "best(%, 0)", 0, 1);
        // Six LUMPS, each of a RING of its own: three RINGS are of one STONE.
        String[] six = {"##.*14", "#.#.*13", "#..#.*12", "#....#.*10", "#.....#.*9", ".##.*13"};
        ClaySeals all = Edges.with();
        for (String picture : six) {
            Edges.and(all, "ring " + picture, "lump " + picture + " 30 30");
        }
        E.due(all, "stones()", 6);
        Edges.and(all, "anew(2, 1, 30)", "anew(3, 2, 30)");
        E.due(all, "stones()", 4);
    }

    private static void best() {
        E.says("BEST: the first of those with the fewest.");
        ClaySeals x = Edges.with("ring #.*15", "ring ##.*14", "ring ##.*14", "lump #.*15 0 59", "lump ?#.*14 0 59");
        E.due(x, "ways()", 6);
        E.due(x, "stones()", 1);
        E.dueOfEach(x, "best(%, 0)", 1, 1);
        Edges.and(x, "anew(1, 0, 59)", "lump #.*15 0 0");
        // Led to RINGS 0 and 1 they are of one STONE, and so they are led to RING 2 alone.
        E.due(x, "stones()", 1);
        E.dueOfEach(x, "best(%, 0)", 0, 1, 0);
    }

    private static void may() {
        E.says("MAY: RINGS a LUMP is led to in some WAY.");
        ClaySeals x = Edges.with("ring ##.*14", "ring ##.*14", "held(1, 0, 0, 9)", "lump #.?*14 0 59", "lump .#?*14 20 20");
        E.due(x, "can(0, 0)", 1);
        E.dueOfEach(x, "may(%)", 2, 1);
        Edges.and(x, "aside(2)");
        E.dueOfEach(x, "may(%)", 3, 0);
        ClaySeals all = Edges.with("ring #*16 x6", "lump ?*16 0 59");
        E.due(all, "may(0)", 63);
    }

    private static void sure() {
        E.says("SURE: LUMPS that are led to one STONE alone.");
        ClaySeals x = Edges.with("ring #*16 x3", "anew(1, 0, 30)", "held(2, 0, 0, 9)", "lump ?*16 30 30", "lump ?*16 9 9",
            "lump ?*16 10 10", "lump ?*16 59 59", "lump ?*16 59 59");
        E.dueOfEach(x, "may(%)", 3, 5, 1, 2, 2);
        E.due(x, "sure()", 1 | 4 | 8 | 16);
        Edges.and(x, "aside(16)");
        E.due(x, "sure()", 1 | 4 | 8);
        Edges.and(x, "aside(31)");
        E.due(x, "sure()", 0);
    }

    private static void pressed() {
        E.says("PRESSED by: PERSONS who in some WAY can have pressed a LUMP: who HELD that RING on a DAY of the LUMP on which"
            + " it was pressed.");
        ClaySeals x = Edges.with("ring ##.*14", "ring ##.*14", "lump ##?*14 10 20");
        E.due(x, "pressed(0)", 0);
        Edges.and(x, "held(0, 0, 0, 9)", "held(0, 1, 0, 10)", "held(0, 2, 20, 59)", "held(0, 3, 21, 59)", "held(0, 7, 15, 15)");
        E.due(x, "pressed(0)", 1 << 1 | 1 << 2 | 1 << 7);
        Edges.and(x, "held(1, 4, 0, 59)");
        E.due(x, "pressed(0)", 1 << 1 | 1 << 2 | 1 << 4 | 1 << 7);
        // Cut anew on DAY 19, the older one was not pressed on DAY 20.
        Edges.and(x, "anew(1, 0, 19)");
        E.due(x, "pressed(0)", 1 << 1 | 1 << 4 | 1 << 7);
        Edges.and(x, "aside(1)");
        E.due(x, "pressed(0)", 0);
        // It CAN BE of the first RING, but is led there in no WAY.
        ClaySeals y = Edges.with("ring ##.*14", "ring ##.*14", "held(0, 5, 0, 59)", "held(1, 6, 0, 9)", "lump #.?*14 0 59",
            "lump .#?*14 20 20");
        E.dueOfEach(y, "pressed(%)", 1 << 6, 1 << 5);
    }

    private static void empty() {
        E.says("EMPTY: HELD ones by which in no WAY a LUMP of that RING can have been pressed so.");
        ClaySeals none = Edges.with("ring #*16");
        E.due(none, "empty()", 0);
        Edges.and(none, "held(0, 0, 0, 59) x12");
        E.due(none, "empty()", 4095);
        ClaySeals x = Edges.with("ring ##.*14", "ring ##.*14", "lump ##?*14 10 20", "held(0, 0, 0, 9)", "held(0, 0, 0, 10)",
            "held(0, 0, 20, 59)", "held(0, 0, 21, 59)", "held(1, 0, 15, 15)", "held(1, 0, 9, 9)");
        E.due(x, "empty()", 1 | 8 | 32);
        Edges.and(x, "anew(1, 0, 19)");
        E.due(x, "ways()", 1);
        E.due(x, "empty()", 1 | 4 | 8 | 16 | 32);
        Edges.and(x, "lump ##?*14 9 9");
        E.due(x, "empty()", 4 | 8 | 16 | 32);
        Edges.and(x, "aside(2)");
        E.due(x, "empty()", 1 | 4 | 8 | 16 | 32);
        ClaySeals y = Edges.with("ring ##.*14", "ring ##.*14", "held(0, 5, 0, 19)", "held(0, 5, 20, 59)", "held(1, 6, 0, 9)",
            "lump #.?*14 0 59", "lump .#?*14 20 20");
        E.due(y, "empty()", 1);
    }

    private static void leftOut() {
        E.says("LEFT OUT: the fewest LUMPS (of those not ASIDE) without which there is a WAY, of like ones the least as bits.");
        ClaySeals none = Edges.with("lump ?*16 0 59 x8");
        E.due(none, "leftOut()", 255);
        Edges.and(none, "aside(129)");
        E.due(none, "leftOut()", 126);
        Edges.and(none, "ring #*16");
        E.due(none, "leftOut()", 0);
        ClaySeals x = Edges.with("ring ##.*14", "lump #.?*14 0 59", "lump .#?*14 0 59");
        E.due(x, "leftOut()", 1);
        Edges.and(x, "lump #.?*14 0 59");
        E.due(x, "leftOut()", 2);
        Edges.and(x, "lump .#?*14 0 59");
        E.due(x, "leftOut()", 5);
        Edges.and(x, "aside(4)");
        E.due(x, "leftOut()", 1);
        Edges.and(x, "aside(0)", "lump ??#?*13 0 59");
        E.due(x, "leftOut()", 21);
        // One alone as bits is less than two, whatever its bit is: fewer go ahead of less.
        ClaySeals y = Edges.with("ring ##.*14", "lump #.?*14 0 59 x7", "lump .#?*14 0 59");
        E.due(y, "leftOut()", 128);
    }
}
