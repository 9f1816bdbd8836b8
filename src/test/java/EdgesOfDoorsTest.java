/** The edges that parts 3 and 4 of DOC.md and its "Refusals" name, each behind the sentence that names it. */
public final class EdgesOfDoorsTest {
    private static final Edges E = new Edges();
    private static final int NONE = Edges.NONE, BAD = Edges.BAD, NOT = Edges.NOT, FULL = Edges.FULL;
    private static final int NULL = Edges.NULL, INDEX = Edges.INDEX, CAST = Edges.CAST, STORE = Edges.STORE;
    private static final int SIZE = Edges.SIZE;

    /** Eight marks each: none goes with another one, however it is TURNED. */
    private static final String[] APART = {"#....####..##..#", ".#.####....##.#.", "#..##.#..#.###..",
        "#.#......#.#####", "##...#..#.##.#.#", "#...####...#.##.", "..#####....###..", ".#.#.###.....###"};

    public static void main(String[] args) {
        joinedByPictures();
        joinedByDays();
        atLeast();
        ones();
        near();
        copies();
        copiesNoMoreThanTold();
        copiesOfLikeOnes();
        doors();
        shut();
        must();
        gap();
        cleanByStones();
        cleanByCells();
        cleanTheLeast();
        firstThatFits();
        badOrNone();
        noWay();
        changeNothing();
        changeNothingWhenFull();
        E.finish();
    }

    private static void joined(String first, String second, int want) {
        ClaySeals x = Edges.with("lump " + first + " 0 59", "lump " + second + " 0 59");
        E.due(x, "joined(0, 1)", want);
        E.due(x, "joined(1, 0)", want);
        E.due(x, "least()", 2 - want);
    }

    private static void joinedByPictures() {
        E.says("JOINED: two LUMPS can be of one ring that nobody knows, if the second one can be TURNED against the first such"
            + " that not at one cell it shows a mark, where the first shows none, and at another one the first shows a mark,"
            + " where it shows none;");
        joined("?*16", "?*16", 1);
        joined("#*16", ".*16", 1);
        joined("#.*15", ".*15#", 1);
        joined("#.*15", "...#.*12", 1);
        joined("#.*15", ".*12#...", 1);
        joined("#.*15", ".....#.*10", 0);
        joined("#.*15", "?....#.*10", 1);
        joined("##.*14", "#.#.*13", 0);
        joined("##.*14", "#.?.*13", 1);
        joined("##.*14", "#.*15", 1);
        joined("#.?*14", ".#?*14", 1);
    }

    private static void joinedByDays() {
        E.says("and whichever shows a mark, where the other one shows none, has a DAY that is not behind the other's last one.");
        String[] days = {"10 20 0 10", "10 20 0 9", "0 0 0 0", "1 1 0 0", "59 59 0 59", "59 59 0 58", "0 0 59 59"};
        int[] due = {1, 0, 1, 0, 1, 0, 1};
        for (int k = 0; k < days.length; k++) {
            String[] d = days[k].split(" ");
            String more = d[0] + " " + d[1];
            String less = d[2] + " " + d[3];
            ClaySeals x = Edges.with("lump ##.*14 " + more, "lump #.*15 " + less, "lump ##.*14 " + less);
            E.due(x, "joined(0, 1)", due[k]);
            E.due(x, "joined(1, 0)", due[k]);
            E.due(x, "joined(0, 2)", 1);
        }
        // Not TURNED the first one would be too late; TURNED twice they are alike.
        ClaySeals turned = Edges.with("lump #.*15 30 39", "lump .?*14# 10 19");
        E.due(turned, "joined(0, 1)", 1);
        ClaySeals late = Edges.with("lump #??#????????#??# 30 39", "lump .??#????????#??# 10 29");
        E.due(late, "joined(0, 1)", 0);
        ClaySeals just = Edges.with("lump #??#????????#??# 30 39", "lump .??#????????#??# 10 30");
        E.due(just, "joined(0, 1)", 1);
    }

    private static void atLeast() {
        E.says("AT LEAST: the fewest rings such that no two LUMPS of one (8 that are not ASIDE at most: FULL) cannot be JOINED;");
        ClaySeals x = Edges.with();
        E.due(x, "least()", 0);
        Edges.and(x, "lump " + APART[0] + " 0 59");
        E.due(x, "least()", 1);
        for (int k = 1; k < 8; k++) {
            Edges.and(x, "lump " + APART[k] + " 0 59");
            E.due(x, "least()", k + 1);
        }
        Edges.and(x, "lump " + APART[7] + " 0 59");
        E.due(x, "least()", FULL);
        E.due(x, "ones(0)", FULL);
        Edges.and(x, "aside(1)");
        E.due(x, "least()", 7);
        Edges.and(x, "aside(511)");
        E.due(x, "least()", 0);
        ClaySeals same = Edges.with("lump ?*16 0 59 x12", "aside(240)");
        E.due(same, "least()", 1);
        Edges.and(same, "aside(224)");
        E.due(same, "least()", FULL);
    }

    private static void ones() {
        E.says("ONES: the least row of them (LUMP by LUMP, each time the least number that leaves so few; from 0).");
        ClaySeals x = Edges.with();
        for (String picture : APART) {
            Edges.and(x, "lump " + picture + " 0 59");
        }
        E.dueOfEach(x, "ones(%)", 0, 1, 2, 3, 4, 5, 6, 7);
        Edges.and(x, "aside(85)");
        E.dueOfEach(x, "ones(%)", NONE, 0, NONE, 1, NONE, 2, NONE, 3);
        ClaySeals same = Edges.with("lump ?*16 0 59 x8");
        E.dueOfEach(same, "ones(%)", 0, 0, 0, 0, 0, 0, 0, 0);
        // The second one goes with the first, but then three rings are needed.
        ClaySeals row = Edges.with("lump ##...#...??..... 0 59", "lump ##....?..#?..... 0 59", "lump ##....#..#...... 0 59",
            "lump ##...#?...#..... 0 59");
        E.due(row, "joined(0, 1)", 1);
        E.dueOfEach(row, "ones(%)", 0, 1, 1, 0);
        Edges.and(row, "aside(4)");
        E.dueOfEach(row, "ones(%)", 0, 0, NONE, 1);
    }

    private static void near() {
        E.says("NEAR are two RINGS: in how many cells their PICTURES differ at least, one of them TURNED as is best.");
        ClaySeals x = Edges.with("ring .*16", "ring #*16", "ring ##.*14", "ring ...#...#.*8", "ring .*8#...#...", "ring .*14##");
        E.due(x, "near(0, 1)", 16);
        E.due(x, "near(1, 0)", 16);
        E.due(x, "near(0, 2)", 2);
        E.due(x, "near(1, 2)", 14);
        E.dueOfAll(x, 0, "near(2, 3)", "near(3, 2)", "near(2, 4)", "near(4, 2)", "near(2, 5)", "near(5, 3)");
    }

    private static void copies() {
        E.says("COPY of a RING: the other RING, of another STONE, to which it is least NEAR in number,");
        ClaySeals x = Edges.with("ring ##.*14");
        E.due(x, "copyOf(0, 16)", NONE);
        Edges.and(x, "ring ##.*14");
        E.due(x, "copyOf(0, 16)", 1);
        Edges.and(x, "anew(1, 0, 5)");
        E.due(x, "copyOf(0, 16)", NONE);
        E.due(x, "copyOf(1, 16)", NONE);
        Edges.and(x, "ring #*16", "ring ###.*13", "ring #*4.*12");
        E.due(x, "copyOf(0, 16)", 3);
        E.due(x, "copyOf(2, 16)", 4);
    }

    private static void copiesNoMoreThanTold() {
        E.says("if that is no more than told (0 to 16);");
        ClaySeals x = Edges.with("ring .*16", "ring #*16");
        E.due(x, "copyOf(0, 16)", 1);
        E.due(x, "copyOf(0, 15)", NONE);
        E.dueOfAll(x, BAD, "copyOf(0, -1)", "copyOf(0, 17)", "copyOf(0, LEAST)", "copyOf(0, MOST)");
        Edges.and(x, "ring .*15#", "ring ##.*14", "ring .*16");
        E.due(x, "copyOf(2, 1)", 0);
        E.due(x, "copyOf(2, 0)", NONE);
        E.due(x, "copyOf(0, 0)", 4);
    }

    private static void copiesOfLikeOnes() {
        E.says("of like ones the least; NONE.");
        ClaySeals x = Edges.with("ring ##.*14", "ring #*16", "ring #.*15", "ring #.*15", "ring .*16");
        E.due(x, "copyOf(0, 16)", 2);
        E.due(x, "copyOf(4, 16)", 2);
        E.due(x, "copyOf(3, 16)", 2);
        E.due(x, "copyOf(2, 16)", 3);
        E.due(x, "copyOf(1, 13)", NONE);
        E.due(x, "copyOf(1, 14)", 0);
    }

    private static void doors() {
        E.says("DOORS: LUMPS (that are not ASIDE) with pegs at a DOOR:");
        ClaySeals x = Edges.with();
        E.due(x, "shut(0, 0, 0)", 0);
        E.due(x, "gap(0)", 0);
        Edges.and(x, "lump #*16 5 5 0 2", "lump #*16 5 5 1 2", "lump #*16 5 5 2 2", "lump #*16 5 5 3 2", "lump #*16 5 5 1 1",
            "lump #*16 5 5 1 3", "lump #*16 9 9 1 2", "lump #*16 7 7 0 2", "lump #*16 7 7 1 1");
        E.dueOfEach(x, "shut(%, 5, 0)", 0, 1, 1, 1);
        E.dueOfEach(x, "shut(%, 5, 1)", 0, 1, 1, 1);
        E.dueOfEach(x, "gap(%)", 0, 1, 3, 0);
        Edges.and(x, "aside(2)");
        E.dueOfEach(x, "shut(%, 5, 0)", 0, 1, 0, 1);
        E.dueOfEach(x, "gap(%)", 0, 1, 0, 0);
    }

    private static void shut() {
        E.says("SHUT on a DAY: how many of these can have been pressed on it,");
        ClaySeals x = Edges.with("lump #*16 0 0 1 0", "lump #*16 0 30 1 0", "lump #*16 31 59 1 0", "lump #*16 59 59 1 0",
            "lump #*16 0 59 1 0");
        E.due(x, "shut(0, 0, 0)", 3);
        E.due(x, "shut(0, 1, 0)", 2);
        E.due(x, "shut(0, 30, 0)", 2);
        E.due(x, "shut(0, 31, 0)", 2);
        E.due(x, "shut(0, 58, 0)", 2);
        E.due(x, "shut(0, 59, 0)", 3);
        E.dueOfAll(x, BAD, "shut(0, -1, 0)", "shut(0, 60, 0)");
        ClaySeals all = Edges.with("lump #*16 0 59 1 3 x12");
        E.due(all, "shut(3, 59, 0)", 12);
    }

    private static void must() {
        E.says("must have been (their DAYS are that one alone).");
        ClaySeals x = Edges.with("lump #*16 0 0 1 0", "lump #*16 0 1 1 0", "lump #*16 59 59 1 0", "lump #*16 59 59 1 0",
            "lump #*16 58 59 1 0");
        E.due(x, "shut(0, 0, 1)", 1);
        E.due(x, "shut(0, 1, 1)", 0);
        E.due(x, "shut(0, 58, 1)", 0);
        E.due(x, "shut(0, 59, 1)", 2);
    }

    private static void gap() {
        E.says("GAP: the most DAYS one after the other, from the first to the last on which one of these can have been pressed,"
            + " on which none can; 0.");
        ClaySeals x = Edges.with();
        E.due(x, "gap(0)", 0);
        Edges.and(x, "lump #*16 20 22 1 0");
        E.due(x, "gap(0)", 0);
        Edges.and(x, "lump #*16 23 23 1 0");
        E.due(x, "gap(0)", 0);
        Edges.and(x, "lump #*16 25 25 1 0");
        E.due(x, "gap(0)", 1);
        Edges.and(x, "lump #*16 59 59 1 0");
        E.due(x, "gap(0)", 33);
        Edges.and(x, "lump #*16 0 0 1 0", "aside(8)");
        E.due(x, "gap(0)", 19);
        Edges.and(x, "aside(23)", "lump #*16 1 1 1 0");
        E.due(x, "gap(0)", 57);
        Edges.and(x, "aside(15)");
        E.due(x, "gap(0)", 0);
        ClaySeals wide = Edges.with("lump #*16 0 0 1 3", "lump #*16 59 59 1 3");
        E.due(wide, "gap(3)", 58);
        Edges.and(wide, "lump #*16 0 59 1 3");
        E.due(wide, "gap(3)", 0);
    }

    private static void cleanByStones() {
        E.says("CLEAN next: the LUMP not ASIDE with the most STONES that it MAY be of, two at least,");
        ClaySeals x = Edges.with("ring #*16", "lump ?*16 0 59");
        E.due(x, "clean()", NONE);
        Edges.and(x, "ring #*16");
        E.due(x, "clean()", 0);
        Edges.and(x, "anew(1, 0, 30)");
        E.due(x, "clean()", NONE);
        // Three STONES and one cell go ahead of two STONES and all cells.
        ClaySeals y = Edges.with("ring #*16 x3", "held(2, 0, 30, 59)", "lump ?*16 0 29", "lump #*15? 0 59");
        E.due(y, "clean()", 1);
        Edges.and(y, "aside(2)");
        E.due(y, "clean()", 0);
        // Three RINGS of one STONE do not.
        ClaySeals z = Edges.with("ring #*16 x4", "anew(1, 0, 30)", "anew(2, 1, 30)", "held(3, 0, 0, 0)", "lump ?*15. 30 30",
            "lump ?*14.. 0 0");
        E.due(z, "may(0)", 7);
        E.due(z, "clean()", 1);
    }

    private static void cleanByCells() {
        E.says("of like ones the one with the most cells not seen, at least one,");
        ClaySeals x = Edges.with("ring #*16 x2", "lump #*16 0 59");
        E.due(x, "clean()", NONE);
        Edges.and(x, "lump #*15? 0 59");
        E.due(x, "clean()", 1);
        Edges.and(x, "lump #*14?? 0 59");
        E.due(x, "clean()", 2);
        Edges.and(x, "lump ?*16 0 59");
        E.due(x, "clean()", 3);
        Edges.and(x, "aside(14)");
        E.due(x, "clean()", NONE);
        // One with more STONES, but no cell to clean.
        ClaySeals y = Edges.with("ring #*16 x3", "held(2, 0, 30, 59)", "lump #*16 0 59", "lump #*15? 0 29");
        E.due(y, "clean()", 1);
    }

    private static void cleanTheLeast() {
        E.says("then the least; NONE.");
        ClaySeals x = Edges.with("ring #*16 x2", "lump #*16 0 59", "lump #*14?? 0 59", "lump ??#*14 0 59", "lump #*14?? 0 59");
        E.due(x, "clean()", 1);
        Edges.and(x, "aside(2)");
        E.due(x, "clean()", 2);
        Edges.and(x, "aside(6)");
        E.due(x, "clean()", 3);
        Edges.and(x, "aside(14)");
        E.due(x, "clean()", NONE);
        E.due(Edges.with(), "clean()", NONE);
    }

    /** Calls that two or more refusals fit. */
    private static void firstThatFits() {
        E.says("Refusals, the first that fits, in the order told at each act:");
        E.due(Edges.with("type(35) x40"), "type(256)", BAD);
        E.due(Edges.with("ring #*16 x6", "line #*15"), "ring()", NOT);
        E.due(Edges.with("ring #*16 x6", "line #*15?"), "ring()", NOT);
        E.due(Edges.with("ring #*16 x2", "anew(1, 0, 5)"), "anew(1, 0, 60)", BAD);
        E.due(Edges.with("ring #*16", "held(0, 0, 0, 59) x12"), "held(0, 8, 0, 59)", BAD);
        E.due(Edges.with("lump #*16 0 59 x12", "line #*15"), "lump(0, 60, 0, 0)", BAD);
        E.due(Edges.with("lump #*16 0 59 x12", "line #*15"), "lump(0, 59, 0, 0)", NOT);
        E.due(Edges.with("ring .*16", "lump #*16 0 59"), "cells(0, 0, 0, 2)", BAD);
        E.due(Edges.with("ring .*16", "lump #*16 0 59 x2"), "earlier(0, 0, 0, 1, 4)", BAD);
        E.dueOfAll(Edges.with("lump #*16 0 59"), BAD, "best(1, 0)", "best(0, 2)", "may(1)", "pressed(1)");
        E.dueOfAll(Edges.with("lump #*16 0 59 x9"), BAD, "best(9, 0)", "best(0, 2)", "may(9)", "pressed(9)", "ones(9)");
        E.dueOfAll(Edges.with("lump #*16 0 59", "lump #*16 0 59", "aside(1)"), NOT, "best(0, 0)", "may(0)", "pressed(0)");
        E.dueOfAll(Edges.with("ring #*16", "lump #*16 0 59 x10", "aside(1)"), FULL, "best(0, 0)", "may(0)", "pressed(0)",
            "ones(0)");
        E.due(Edges.with(), "sheet(4, 0, -1)", BAD);
        E.due(Edges.with(), "sheet(0, 3, -1)", BAD);
        E.dueOfAll(Edges.with(), BAD, "put(4, 0, 0, 0)", "put(0, 3, 0, 0)", "copy(4, 0, 0, 0, 0)", "copy(0, 0, 4, 0, 0)");
        E.dueOfAll(Edges.with(), NULL, "put(0, 1, -1, 0)", "copy(0, -1, 0, 0, 0)");
        ClaySeals x = Edges.with("sheet(0, 0, 3)", "sheet(1, 1, 3)");
        E.due(x, "put(0, 1, 3, 0)", CAST);
        E.due(x, "copy(0, 4, 1, 0, 0)", STORE);
        E.due(x, "copy(0, 4, 2, 0, 0)", NULL);
        E.due(Edges.with("lump #*16 0 59"), "write(0)", NULL);
        E.due(Edges.with("lump #*16 0 59 x9"), "write(0)", NULL);
        E.due(Edges.with("lump #*16 0 59 x9"), "write(4)", BAD);
    }

    private static void badOrNone() {
        E.says("BAD -2 (a number not as told, no such thing),");
        ClaySeals x = Edges.with("ring #*16", "lump #*16 0 59");
        E.dueOfAll(x, -2, "ringIs(1, 0)", "ringIs(-1, 0)", "lumpIs(1, 0)", "lumpIs(-1, 0)", "can(1, 0)", "can(0, 1)",
            "best(1, 0)", "may(-1)", "pressed(1)", "ones(1)", "near(0, 1)", "copyOf(1, 0)", "joined(0, 1)", "count(7)");
        E.says("NULL, NOT -3 (as told;");
        E.due(x, "lose(0)", -11);
        E.due(x, "ring()", -3);
        E.says("FULL -4, other FINDINGS.");
        E.due(Edges.with("type(35) x40"), "type(35)", -4);
        E.due(Edges.with("sheet(0, 0, 0)"), "put(0, 0, 0, 0)", -12);
    }

    private static void noWay() {
        E.says("no WAY, where there must be one),");
        ClaySeals x = Edges.with("ring .*16", "lump #*16 0 59", "sheet(0, 0, 0)");
        E.dueOfAll(x, NOT, "stones()", "best(0, 0)", "best(0, 1)", "may(0)", "sure()", "pressed(0)", "empty()", "clean()",
            "write(0)");
        E.due(x, "ways()", 0);
        E.due(x, "leftOut()", 1);
        E.due(x, "least()", 1);
        E.due(x, "ones(0)", 0);
        // Of more LUMPS than a WAY leads nobody tells whether there is none.
        Edges.and(x, "lump #*16 0 59 x8");
        E.dueOfAll(x, FULL, "stones()", "best(0, 0)", "may(0)", "sure()", "pressed(0)", "empty()", "clean()", "write(0)");
    }

    private static void changeNothing() {
        E.says("They change nothing (FINDINGS but count() 8).");
        String[] some = {"ring ##.*14", "ring ###.*13", "ring #..#.*12", "anew(1, 0, 30)", "held(0, 1, 0, 40)",
            "held(1, 2, 20, 59)", "held(2, 3, 0, 59)", "lump ##?*14 5 10 1 0", "lump #.?*14 20 40 1 1",
            "lump #??#?*12 0 59 2 2", "lump ?*16 7 7 1 0", "aside(8)", "sheet(0, 0, 4)", "put(0, 0, 1, -7)",
            "sheet(1, 1, 8)", "put(1, 1, 7, 300)", "sheet(2, 2, 0)", "try lose(3)", "line #*3.?*4"};
        E.due(Edges.with(some), "ways()", 4);
        E.refused(some, BAD, "type(-1)", "type(256)", "anew(2, 2, 5)", "anew(2, 0, 60)", "anew(3, 0, 5)", "held(3, 0, 0, 59)",
            "held(0, 8, 0, 59)", "held(0, 0, 9, 8)", "read(4)", "lump(0, 60, 0, 0)", "lump(0, 0, 4, 0)", "lump(0, 0, 0, 4)",
            "aside(16)", "aside(-1)", "lumpIs(4, 0)", "lumpIs(0, 7)", "ringIs(3, 0)", "ringIs(0, 5)", "can(4, 0)",
            "cells(0, 0, 4, 0)", "earlier(0, 1, 0, 1, 0)", "best(4, 0)", "may(4)", "pressed(4)", "joined(0, 0)", "ones(4)",
            "near(0, 0)", "copyOf(0, 17)", "shut(4, 0, 0)", "gap(4)", "sheet(0, 0, 49)", "sheet(0, 3, 0)", "sheet(4, 0, 0)",
            "lose(4)", "put(0, 3, 0, 9)", "put(4, 0, 0, 9)", "copy(0, 0, 4, 0, 1)", "write(4)", "count(7)");
        E.refused(some, NOT, "ring()", "lump(0, 0, 0, 0)", "anew(1, 0, 5)", "anew(2, 0, 5)", "cells(2, 1, 0, 0)",
            "earlier(1, 0, 0, 2, 0)");
        E.refused(some, NULL, "read(3)", "lose(3)", "put(3, 0, 0, 9)", "copy(0, 0, 3, 0, 1)", "copy(3, 0, 0, 0, 1)", "write(3)");
        E.refused(some, CAST, "put(0, 1, 0, 9)", "put(2, 0, 0, 9)");
        E.refused(some, INDEX, "put(0, 0, 4, 9)", "put(2, 2, 0, 9)", "copy(0, 1, 0, 0, 4)", "copy(1, 7, 1, 0, 2)");
        E.refused(some, STORE, "copy(0, 0, 1, 0, 4)");
        E.refused(some, SIZE, "sheet(1, 0, -1)", "sheet(3, 0, -1)");
        E.found(some, 1, "get(3, 0, 0)", "get(4, 0, 0)", "get(0, 3, 0)");
        E.found(some, 2, "get(0, 0, 4)");
        E.found(some, 3, "get(0, 2, 0)");
    }

    private static void changeNothingWhenFull() {
        E.says("They change nothing");
        String[] full = {"ring #*16 x6", "held(0, 1, 0, 40) x12", "lump ?*16 0 59 1 0 x12", "sheet(0, 0, 4)",
            "put(0, 0, 1, -7)", "line #*15?"};
        E.refused(full, FULL, "held(0, 0, 0, 59)", "lump(0, 0, 0, 0)", "ways()", "stones()", "best(0, 0)", "may(0)", "sure()",
            "pressed(0)", "empty()", "leftOut()", "least()", "ones(0)", "clean()", "write(0)");
        E.refused(full, NOT, "ring()");
        E.refused(new String[] {"ring #*16 x6", "line #*16"}, FULL, "ring()");
        E.refused(new String[] {"type(35) x40"}, FULL, "type(35)");
        E.refused(new String[] {"lump #*16 0 59", "sheet(0, 0, 1)", "put(0, 0, 0, 9)"}, NOT, "stones()", "best(0, 0)",
            "may(0)", "sure()", "pressed(0)", "empty()", "clean()", "write(0)");
    }
}
