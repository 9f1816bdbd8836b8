/** The edges that promises 1 to 31 of DOC.md name, each behind the sentence that names it. */
public final class EdgesOfActsTest {
    private static final Edges E = new Edges();
    private static final int NONE = Edges.NONE, BAD = Edges.BAD, NOT = Edges.NOT, FULL = Edges.FULL, NULL = Edges.NULL;
    private static final String[] NOTHING = {};

    public static void main(String[] args) {
        newObject();
        type();
        wipe();
        fault();
        ring();
        anew();
        held();
        read();
        readUpToARefusal();
        lump();
        aside();
        lumpIs();
        ringIs();
        can();
        cells();
        earlier();
        ways();
        stones();
        best();
        may();
        sure();
        pressed();
        empty();
        leftOut();
        joined();
        least();
        ones();
        near();
        copyOf();
        shut();
        gap();
        clean();
        E.finish();
    }

    private static void newObject() {
        E.says("`ClaySeals()`: No RINGS, no LUMPS; all SHEETS are LOST.");
        ClaySeals x = Edges.with();
        E.dueOfEach(x, "count(%)", 0, 0, 0, 0, 0, 0, 0, BAD, 0);
        E.dueOfAll(x, BAD, "ringIs(0, 0)", "lumpIs(0, 0)", "aside(1)");
        E.due(x, "aside(0)", 0);
        E.dueOfEach(x, "lose(%)", NULL, NULL, NULL, NULL);
    }

    private static void type() {
        E.says("`int type(int b)`: A byte (0 to 255) comes behind the LINE: how many. BAD; FULL.");
        E.refused(NOTHING, BAD, "type(-1)", "type(256)", "type(LEAST)", "type(MOST)");
        ClaySeals x = Edges.with();
        E.due(x, "type(0)", 1);
        E.due(x, "type(255)", 2);
        Edges.and(x, "type(35) x37");
        E.due(x, "type(35)", 40);
        E.due(x, "type(35)", FULL);
        E.refused(new String[] {"type(46) x40"}, FULL, "type(0)", "type(255)");
        E.refused(new String[] {"type(46) x40"}, BAD, "type(256)");
    }

    private static void wipe() {
        E.says("`int wipe()`: The LINE is empty: how many bytes it had.");
        ClaySeals x = Edges.with();
        E.due(x, "wipe()", 0);
        Edges.and(x, "type(46)");
        E.due(x, "wipe()", 1);
        E.due(x, "wipe()", 0);
        Edges.and(x, "type(46) x40");
        E.due(x, "wipe()", 40);
        E.due(x, "count(5)", 0);
        E.due(x, "type(46)", 1);
    }

    private static void fault() {
        E.says("`int fault()`: The FAULT; NONE.");
        E.fault("", 0);
        E.fault("#..............", 15);
        E.fault("#...............", NONE);
        E.fault("#................", 16);
        E.fault("#*16", NONE);
        E.fault("#*17", 2);
    }

    private static void ring() {
        E.says("`int ring()`: A RING by the LINE (each cell seen): its number; the LINE is empty then.");
        ClaySeals x = Edges.with("line #*16");
        E.due(x, "ring()", 0);
        E.due(x, "count(5)", 0);
        E.due(x, "ring()", NOT);
        Edges.and(x, "line .*16");
        E.due(x, "ring()", 1);
        E.says("NOT: a FAULT, a ?; FULL.");
        E.refused(new String[] {"line #*15"}, NOT, "ring()");
        E.refused(new String[] {"line #*16."}, NOT, "ring()");
        E.refused(new String[] {"line "}, NOT, "ring()");
        E.refused(new String[] {"line ?#*15"}, NOT, "ring()");
        E.refused(new String[] {"line #*15?"}, NOT, "ring()");
        E.refused(new String[] {"line ?*16"}, NOT, "ring()");
        E.refused(new String[] {"ring #*16 x6", "line #*16"}, FULL, "ring()");
        E.refused(new String[] {"ring #*16 x6", "line ?*16"}, NOT, "ring()");
        E.refused(new String[] {"ring #*16 x6", "line "}, NOT, "ring()");
        E.due(Edges.with("ring #*16 x5", "line #*16"), "ring()", 5);
    }

    private static void anew() {
        String[] three = {"ring #*16 x3"};
        E.says("`int anew(int ring, int of, int day)`: A RING is CUT ANEW of another one on a DAY: 1.");
        E.due(Edges.with(three), "anew(1, 0, 0)", 1);
        E.due(Edges.with(three), "anew(2, 1, 59)", 1);
        E.due(Edges.with(three), "anew(2, 0, 30)", 1);
        E.says("BAD: also one not told ahead;");
        E.refused(three, BAD, "anew(0, 0, 5)", "anew(2, 2, 5)", "anew(0, 1, 5)", "anew(1, 2, 5)", "anew(3, 0, 5)",
            "anew(-1, 0, 5)", "anew(1, 3, 5)", "anew(1, -1, 5)", "anew(1, 0, -1)", "anew(1, 0, 60)", "anew(MOST, 0, 5)",
            "anew(1, LEAST, 5)", "anew(1, 0, LEAST)", "anew(1, 0, MOST)");
        E.says("NOT: it is already of one, or there is already one of that.");
        E.refused(new String[] {"ring #*16 x3", "anew(2, 0, 7)"}, NOT, "anew(2, 0, 7)", "anew(2, 1, 7)", "anew(1, 0, 7)");
        E.refused(new String[] {"ring #*16 x3", "anew(2, 0, 7)"}, BAD, "anew(2, 0, 60)", "anew(0, 2, 7)");
        E.due(Edges.with("ring #*16 x3", "anew(1, 0, 7)"), "anew(2, 1, 7)", 1);
        E.due(Edges.with("ring #*16 x3", "anew(2, 1, 7)"), "anew(1, 0, 7)", 1);
    }

    private static void held() {
        E.says("`int held(int ring, int person, int from, int to)`: A RING is HELD by a PERSON from a DAY to a DAY: its number (0"
            + " on). BAD; FULL.");
        ClaySeals x = Edges.with("ring #*16 x2");
        for (int k = 0; k < 12; k++) {
            E.due(x, "held(" + k % 2 + ", " + k % 8 + ", " + 5 * k + ", 59)", k);
        }
        E.due(x, "held(0, 0, 0, 59)", FULL);
        // What was asked ahead of it is asked anew.
        ClaySeals asked = Edges.with("ring #*16", "lump ?*16 0 0");
        E.due(asked, "ways()", 1);
        E.due(asked, "held(0, 0, 1, 59)", 0);
        E.due(asked, "ways()", 0);
        String[] two = {"ring #*16 x2"};
        E.refused(two, BAD, "held(2, 0, 0, 59)", "held(-1, 0, 0, 59)", "held(0, 8, 0, 59)", "held(0, -1, 0, 59)",
            "held(0, 0, -1, 59)", "held(0, 0, 0, 60)", "held(0, 0, 1, 0)", "held(LEAST, 0, 0, 0)", "held(0, MOST, 0, 0)",
            "held(0, 0, LEAST, MOST)");
        E.refused(NOTHING, BAD, "held(0, 0, 0, 59)");
        String[] twelve = {"ring #*16 x2", "held(0, 0, 0, 59) x12"};
        E.refused(twelve, FULL, "held(0, 0, 0, 59)", "held(1, 7, 59, 59)");
        E.refused(twelve, BAD, "held(2, 0, 0, 59)", "held(0, 8, 0, 59)", "held(0, 0, 0, 60)");
    }

    private static String[] sheetOf(int form, int... items) {
        String[] acts = new String[items.length + 2];
        acts[0] = "ring #*16 x2";
        acts[1] = "sheet(1, " + form + ", " + items.length + ")";
        for (int i = 0; i < items.length; i++) {
            acts[i + 2] = "put(1, " + form + ", " + i + ", " + items[i] + ")";
        }
        return acts;
    }

    private static void read() {
        E.says("`int read(int s)`: HELD ones more, behind those that there are, from a SHEET: its items, four for each (as"
            + " held()), as many as are whole,");
        E.due(Edges.with(sheetOf(2)), "read(1)", 0);
        E.due(Edges.with(sheetOf(2, 0, 0, 0)), "read(1)", 0);
        E.due(Edges.with(sheetOf(2, 0, 0, 0, 59)), "read(1)", 1);
        E.due(Edges.with(sheetOf(2, 0, 0, 0, 59, 1, 0, 0)), "read(1)", 1);
        ClaySeals x = Edges.with(sheetOf(2, 0, 3, 10, 20, 1, 4, 30, 40));
        Edges.and(x, "held(0, 7, 59, 59)", "lump ?*16 20 20", "lump ?*16 40 40");
        E.due(x, "read(1)", 2);
        E.due(x, "count(4)", 3);
        E.due(x, "pressed(0)", 1 << 3);
        E.due(x, "pressed(1)", 1 << 4);
        E.due(x, "empty()", 1);
        E.due(Edges.with("ring #*16", "sheet(1, 0, 48)"), "read(1)", 12);
        E.due(Edges.with("ring #*16", "sheet(1, 1, 47)"), "read(1)", 11);
        // A byte or a short has the lowest bits alone of what was put.
        E.due(Edges.with(sheetOf(0, 256, 263, 256, 315)), "read(1)", 1);
        E.due(Edges.with(sheetOf(1, 65536, 65536, 65536, 65595)), "read(1)", 1);
        E.due(Edges.with(sheetOf(2, 65536, 65536, 65536, 65595)), "read(1)", 0);
    }

    private static void readUpToARefusal() {
        E.says("one by one as held() takes them, up to the first that it refuses: how many it took. BAD; NULL.");
        int[][] wrong = {{2, 0, 0, 59}, {-1, 0, 0, 59}, {0, 8, 0, 59}, {0, -1, 0, 59}, {0, 0, -1, 59}, {0, 0, 0, 60}, {0, 0, 1, 0}};
        for (int[] w : wrong) {
            ClaySeals x = Edges.with(sheetOf(1, 0, 0, 0, 59, w[0], w[1], w[2], w[3], 0, 0, 0, 59));
            E.due(x, "read(1)", 1);
            E.due(x, "count(4)", 1);
            E.due(x, "count(8)", 0);
        }
        E.due(Edges.with(sheetOf(1, 2, 0, 0, 59, 0, 0, 0, 59)), "read(1)", 0);
        ClaySeals full = Edges.with("ring #*16", "sheet(1, 0, 48)", "held(0, 0, 0, 59) x11");
        E.due(full, "read(1)", 1);
        E.due(full, "count(4)", 12);
        E.due(full, "read(1)", 0);
        String[] acts = {"ring #*16", "sheet(1, 0, 4)"};
        E.refused(acts, BAD, "read(-1)", "read(4)", "read(LEAST)", "read(MOST)");
        E.refused(acts, NULL, "read(0)", "read(2)", "read(3)");
        E.due(Edges.with("sheet(3, 0, 4)"), "read(3)", 0);
    }

    private static void lump() {
        E.says("`int lump(int from, int to, int back, int door)`: A LUMP by the LINE: its number; the LINE is empty then. BAD;"
            + " NOT: a FAULT; FULL.");
        ClaySeals x = Edges.with("line ?*16");
        E.due(x, "lump(0, 0, 0, 0)", 0);
        E.due(x, "count(5)", 0);
        Edges.and(x, "line #*16");
        E.due(x, "lump(59, 59, 3, 3)", 1);
        String[] good = {"line #*16"};
        String[] fault = {"line #*15"};
        String[] wrong = {"lump(-1, 0, 0, 0)", "lump(0, 60, 0, 0)", "lump(1, 0, 0, 0)", "lump(0, 0, -1, 0)", "lump(0, 0, 4, 0)",
            "lump(0, 0, 0, -1)", "lump(0, 0, 0, 4)", "lump(LEAST, 0, 0, 0)", "lump(0, MOST, 0, 0)", "lump(0, 0, MOST, 0)",
            "lump(0, 0, 0, LEAST)"};
        E.refused(good, BAD, wrong);
        E.refused(fault, BAD, wrong);
        E.refused(fault, NOT, "lump(0, 0, 0, 0)", "lump(0, 59, 3, 3)");
        E.refused(NOTHING, NOT, "lump(0, 0, 0, 0)");
        E.due(Edges.with("lump #*16 0 59 x11", "line #*16"), "lump(0, 0, 0, 0)", 11);
        E.refused(new String[] {"lump #*16 0 59 x12", "line #*16"}, FULL, "lump(0, 0, 0, 0)");
        E.refused(new String[] {"lump #*16 0 59 x12", "line #*16"}, BAD, wrong);
        E.refused(new String[] {"lump #*16 0 59 x12", "line #*15"}, NOT, "lump(0, 0, 0, 0)");
    }

    private static void aside() {
        E.says("`int aside(int lumps)`: LUMPS (bits) that are ASIDE: which were. BAD: LUMPS there are not.");
        E.due(Edges.with(), "aside(0)", 0);
        E.refused(NOTHING, BAD, "aside(1)", "aside(-1)", "aside(LEAST)", "aside(MOST)");
        String[] three = {"lump #*16 0 59 x3", "aside(5)"};
        E.refused(three, BAD, "aside(8)", "aside(12)", "aside(-1)", "aside(-8)", "aside(LEAST)", "aside(MOST)", "aside(4096)");
        ClaySeals x = Edges.with(three);
        E.due(x, "aside(7)", 5);
        E.due(x, "aside(0)", 7);
        E.due(x, "count(3)", 0);
        ClaySeals all = Edges.with("lump #*16 0 59 x12");
        E.due(all, "aside(4095)", 0);
        E.due(all, "aside(4096)", BAD);
        E.due(all, "aside(2048)", 4095);
        E.due(all, "lumpIs(11, 6)", 1);
    }

    private static void lumpIs() {
        E.says("`int lumpIs(int lump, int what)`: Of a LUMP: 0 marks that it shows (bits, cell 0 the lowest), 1 cells that are"
            + " not seen (bits), 2, 3 its DAYS, 4 BACK, 5 DOOR, 6 whether it is ASIDE. BAD.");
        String[] acts = {"lump #?*14. 0 59 3 0", "lump ?.*14# 59 59 0 3", "aside(2)"};
        ClaySeals x = Edges.with(acts);
        E.dueOfEach(x, "lumpIs(0, %)", 1, 0x7ffe, 0, 59, 3, 0, 0, BAD);
        E.dueOfEach(x, "lumpIs(1, %)", 0x8000, 1, 59, 59, 0, 3, 1, BAD);
        E.refused(acts, BAD, "lumpIs(0, -1)", "lumpIs(0, 7)", "lumpIs(0, LEAST)", "lumpIs(0, MOST)", "lumpIs(2, 0)",
            "lumpIs(-1, 0)", "lumpIs(LEAST, 0)", "lumpIs(MOST, 0)");
        E.refused(NOTHING, BAD, "lumpIs(0, 0)");
    }

    private static void ringIs() {
        E.says("`int ringIs(int ring, int what)`: Of a RING: 0 its marks (bits), 1 of which it is CUT ANEW (NONE), 2 the DAY of"
            + " that (NONE), 3 its STONE (the least RING of it), 4 how many HELD. BAD.");
        String[] acts = {"ring #.*15", "ring .*16", "ring .*15#", "anew(2, 1, 0)", "anew(1, 0, 59)", "held(2, 0, 0, 59) x12"};
        ClaySeals x = Edges.with(acts);
        E.dueOfEach(x, "ringIs(0, %)", 1, NONE, NONE, 0, 0, BAD);
        E.dueOfEach(x, "ringIs(1, %)", 0, 0, 59, 0, 0, BAD);
        E.dueOfEach(x, "ringIs(2, %)", 0x8000, 1, 0, 0, 12, BAD);
        E.refused(acts, BAD, "ringIs(0, -1)", "ringIs(0, 5)", "ringIs(0, LEAST)", "ringIs(0, MOST)", "ringIs(3, 0)",
            "ringIs(-1, 0)", "ringIs(LEAST, 0)", "ringIs(MOST, 0)");
        E.refused(NOTHING, BAD, "ringIs(0, 0)");
    }

    private static void can() {
        E.says("`int can(int lump, int ring)`: How often TURNED a LUMP CAN BE of a RING, as bits. BAD.");
        String[] acts = {"ring #.*15", "lump #.*15 0 59", "lump .*12#... 0 59", "lump ?*16 0 59", "lump #*16 0 59", "aside(4)"};
        E.dueOfEach(Edges.with(acts), "can(%, 0)", 1, 8, 15, 0);
        E.refused(acts, BAD, "can(4, 0)", "can(-1, 0)", "can(0, 1)", "can(0, -1)", "can(LEAST, 0)", "can(0, MOST)");
        E.refused(NOTHING, BAD, "can(0, 0)");
    }

    private static void cells() {
        E.says("`int cells(int lump, int ring, int turned, int what)`: CHIPPED (what = 0), WHOLE (1) cells of the RING, by a LUMP"
            + " TURNED so often. BAD; NOT: it CAN not BE.");
        String[] acts = {"ring #.*14#", "held(0, 0, 10, 59)", "lump #.*15 10 10", "lump #.*15 9 9"};
        ClaySeals x = Edges.with(acts);
        E.due(x, "cells(0, 0, 0, 0)", 0x8000);
        E.due(x, "cells(0, 0, 0, 1)", 1);
        E.due(x, "cells(0, 0, 2, 0)", 1);
        E.due(x, "cells(0, 0, 2, 1)", 0x8000);
        E.refused(acts, NOT, "cells(0, 0, 1, 0)", "cells(0, 0, 3, 1)", "cells(1, 0, 0, 0)");
        E.refused(acts, BAD, "cells(2, 0, 0, 0)", "cells(-1, 0, 0, 0)", "cells(0, 1, 0, 0)", "cells(0, -1, 0, 0)",
            "cells(0, 0, -1, 0)", "cells(0, 0, 4, 0)", "cells(0, 0, 0, -1)", "cells(0, 0, 0, 2)", "cells(0, 0, 1, 2)",
            "cells(LEAST, 0, 0, 0)", "cells(0, MOST, 0, 0)", "cells(0, 0, MOST, 0)", "cells(0, 0, 0, LEAST)");
    }

    private static void earlier() {
        E.says("`int earlier(int ring, int a, int turnedA, int b, int turnedB)`: Whether of two LUMPS of a RING, TURNED so often"
            + " each, the first is EARLIER: 1, 0.");
        String[] acts = {"ring ##.*14", "held(0, 0, 0, 20)", "lump ##?*14 0 9", "lump #.?*14 20 59", "lump #?*15 21 59"};
        ClaySeals x = Edges.with(acts);
        E.due(x, "earlier(0, 0, 0, 1, 0)", 1);
        E.due(x, "earlier(0, 1, 0, 0, 0)", 0);
        E.says("BAD: also one with itself; NOT: one CAN not BE so.");
        E.refused(acts, BAD, "earlier(0, 0, 0, 0, 0)", "earlier(0, 1, 0, 1, 1)", "earlier(1, 0, 0, 1, 0)",
            "earlier(-1, 0, 0, 1, 0)", "earlier(0, 3, 0, 1, 0)", "earlier(0, -1, 0, 1, 0)", "earlier(0, 0, 0, 3, 0)",
            "earlier(0, 0, 0, -1, 0)", "earlier(0, 0, 4, 1, 0)", "earlier(0, 0, -1, 1, 0)", "earlier(0, 0, 0, 1, 4)",
            "earlier(0, 0, 0, 1, -1)", "earlier(0, 0, 1, 1, 4)", "earlier(LEAST, 0, 0, 1, 0)", "earlier(0, MOST, 0, 1, 0)",
            "earlier(0, 0, MOST, 1, 0)", "earlier(0, 0, 0, LEAST, 0)", "earlier(0, 0, 0, 1, MOST)");
        E.refused(acts, NOT, "earlier(0, 0, 1, 1, 0)", "earlier(0, 0, 0, 1, 2)", "earlier(0, 0, 0, 2, 0)",
            "earlier(0, 2, 0, 0, 0)");
    }

    /** States that many acts are refused in: no WAY, or more LUMPS than a WAY leads. */
    private static final String[] NO_WAY = {"ring .*16", "held(0, 0, 0, 59)", "lump #*16 0 59", "lump ?*16 0 59", "aside(2)"};
    private static final String[] NINE = {"ring #*16", "held(0, 0, 0, 59)", "lump #*16 0 59 x10", "aside(1)"};

    private static void ways() {
        E.says("`int ways()`: WAYS, up to 20000. FULL.");
        E.due(Edges.with(), "ways()", 1);
        E.due(Edges.with(NO_WAY), "ways()", 0);
        ClaySeals x = Edges.with("ring #*16 x6", "lump ?*16 0 59 x5");
        E.due(x, "ways()", 7776);
        Edges.and(x, "lump ?*16 0 59");
        E.due(x, "ways()", 20000);
        Edges.and(x, "lump ?*16 0 59 x2");
        E.due(x, "ways()", 20000);
        Edges.and(x, "lump ?*16 0 59");
        E.due(x, "ways()", FULL);
        E.refused(NINE, FULL, "ways()");
    }

    private static void stones() {
        E.says("`int stones()`: STONES of BEST. NOT; FULL.");
        E.due(Edges.with(), "stones()", 0);
        E.due(Edges.with("ring #*16 x2", "lump ?*16 0 59 x8"), "stones()", 1);
        E.refused(NO_WAY, NOT, "stones()");
        E.refused(NINE, FULL, "stones()");
    }

    private static void best() {
        E.says("`int best(int lump, int what)`: BEST: the RING of a LUMP (what = 0), how often TURNED (1); NONE: it is ASIDE. BAD;"
            + " NOT; FULL.");
        String[] acts = {"ring .*16", "ring ...#.*12", "lump #.*15 0 59", "lump #.*15 0 59", "aside(2)"};
        ClaySeals x = Edges.with(acts);
        E.due(x, "best(0, 0)", 1);
        E.due(x, "best(0, 1)", 3);
        E.due(x, "best(1, 0)", NONE);
        E.due(x, "best(1, 1)", NONE);
        E.refused(acts, BAD, "best(2, 0)", "best(-1, 0)", "best(LEAST, 0)", "best(MOST, 0)", "best(0, -1)", "best(0, 2)",
            "best(0, LEAST)", "best(0, MOST)");
        E.refused(NO_WAY, NOT, "best(0, 0)", "best(0, 1)", "best(1, 0)", "best(1, 1)");
        E.refused(NO_WAY, BAD, "best(2, 0)", "best(0, 2)");
        E.refused(NINE, FULL, "best(0, 0)", "best(9, 1)");
        E.refused(NINE, BAD, "best(10, 0)", "best(0, 2)");
    }

    private static void may() {
        E.says("`int may(int lump)`: MAY, as bits (0 of one ASIDE). BAD; NOT; FULL.");
        String[] acts = {"ring #*16 x6", "lump ?*16 0 59", "lump ?*16 0 59", "aside(2)"};
        E.dueOfEach(Edges.with(acts), "may(%)", 63, 0, BAD);
        E.refused(acts, BAD, "may(2)", "may(-1)", "may(LEAST)", "may(MOST)");
        E.refused(NO_WAY, NOT, "may(0)", "may(1)");
        E.refused(NO_WAY, BAD, "may(2)");
        E.refused(NINE, FULL, "may(0)", "may(9)");
        E.refused(NINE, BAD, "may(10)");
    }

    private static void sure() {
        E.says("`int sure()`: SURE, as bits. NOT; FULL.");
        E.due(Edges.with(), "sure()", 0);
        E.due(Edges.with("ring #*16", "lump ?*16 0 59 x12", "aside(15)"), "sure()", 4080);
        E.due(Edges.with("ring #*16 x2", "lump ?*16 0 59 x8"), "sure()", 0);
        E.refused(NO_WAY, NOT, "sure()");
        E.refused(NINE, FULL, "sure()");
    }

    private static void pressed() {
        E.says("`int pressed(int lump)`: PRESSED, as bits. BAD; NOT; FULL.");
        String[] acts = {"ring #*16", "held(0, 0, 0, 59)", "held(0, 7, 0, 59)", "lump ?*16 0 59", "lump ?*16 0 59", "aside(2)"};
        E.dueOfEach(Edges.with(acts), "pressed(%)", 129, 0, BAD);
        E.due(Edges.with("ring #*16", "lump ?*16 0 59"), "pressed(0)", 0);
        E.refused(acts, BAD, "pressed(2)", "pressed(-1)", "pressed(LEAST)", "pressed(MOST)");
        E.refused(NO_WAY, NOT, "pressed(0)", "pressed(1)");
        E.refused(NO_WAY, BAD, "pressed(2)");
        E.refused(NINE, FULL, "pressed(0)", "pressed(9)");
        E.refused(NINE, BAD, "pressed(10)");
    }

    private static void empty() {
        E.says("`int empty()`: EMPTY, as bits. NOT; FULL.");
        E.due(Edges.with(), "empty()", 0);
        E.due(Edges.with("ring #*16", "held(0, 0, 0, 59) x12"), "empty()", 4095);
        E.due(Edges.with("ring #*16", "held(0, 0, 0, 59) x12", "lump ?*16 0 59"), "empty()", 0);
        E.refused(NO_WAY, NOT, "empty()");
        E.refused(NINE, FULL, "empty()");
    }

    private static void leftOut() {
        E.says("`int leftOut()`: LEFT OUT, as bits. FULL.");
        E.due(Edges.with(), "leftOut()", 0);
        E.due(Edges.with(NO_WAY), "leftOut()", 1);
        E.due(Edges.with("lump ?*16 0 59 x12", "aside(15)"), "leftOut()", 4080);
        E.due(Edges.with("ring #*16", "lump ?*16 0 59 x8"), "leftOut()", 0);
        E.refused(NINE, FULL, "leftOut()");
        E.refused(new String[] {"lump ?*16 0 59 x9"}, FULL, "leftOut()");
    }

    private static void joined() {
        E.says("`int joined(int a, int b)`: Whether two LUMPS can be JOINED: 1, 0. BAD: also one with itself.");
        String[] acts = {"lump ##.*14 0 59", "lump #.#.*13 0 59", "lump ?*16 0 59", "aside(7)"};
        ClaySeals x = Edges.with(acts);
        E.due(x, "joined(0, 1)", 0);
        E.due(x, "joined(2, 0)", 1);
        E.refused(acts, BAD, "joined(0, 0)", "joined(2, 2)", "joined(0, 3)", "joined(3, 0)", "joined(-1, 0)", "joined(0, -1)",
            "joined(LEAST, 0)", "joined(0, MOST)", "joined(3, 3)");
        E.refused(NOTHING, BAD, "joined(0, 1)");
        ClaySeals twelve = Edges.with("lump #*16 0 59 x12");
        E.due(twelve, "joined(0, 11)", 1);
    }

    private static void least() {
        E.says("`int least()`: AT LEAST. FULL.");
        E.due(Edges.with(), "least()", 0);
        E.due(Edges.with(NO_WAY), "least()", 1);
        E.due(Edges.with("lump ?*16 0 59 x8"), "least()", 1);
        E.refused(NINE, FULL, "least()");
    }

    private static void ones() {
        E.says("`int ones(int lump)`: ONES: the number of the ring of a LUMP; NONE: it is ASIDE. BAD; FULL.");
        E.dueOfEach(Edges.with(NO_WAY), "ones(%)", 0, NONE, BAD);
        E.refused(NO_WAY, BAD, "ones(2)", "ones(-1)", "ones(LEAST)", "ones(MOST)");
        E.refused(NINE, FULL, "ones(0)", "ones(9)");
        E.refused(NINE, BAD, "ones(10)");
    }

    private static void near() {
        E.says("`int near(int a, int b)`: NEAR. BAD: also one with itself.");
        String[] acts = {"ring .*16", "ring #*16", "ring .*16"};
        ClaySeals x = Edges.with(acts);
        E.due(x, "near(0, 1)", 16);
        E.due(x, "near(2, 0)", 0);
        E.refused(acts, BAD, "near(0, 0)", "near(2, 2)", "near(0, 3)", "near(3, 0)", "near(-1, 0)", "near(0, -1)",
            "near(LEAST, 0)", "near(0, MOST)");
        E.refused(NOTHING, BAD, "near(0, 1)");
    }

    private static void copyOf() {
        E.says("`int copyOf(int ring, int most)`: COPY; NONE. BAD.");
        String[] acts = {"ring .*16", "ring #*16"};
        ClaySeals x = Edges.with(acts);
        E.due(x, "copyOf(1, 16)", 0);
        E.due(x, "copyOf(1, 15)", NONE);
        E.due(x, "copyOf(1, 0)", NONE);
        E.refused(acts, BAD, "copyOf(2, 0)", "copyOf(-1, 0)", "copyOf(0, -1)", "copyOf(0, 17)", "copyOf(LEAST, 0)",
            "copyOf(MOST, 0)", "copyOf(0, LEAST)", "copyOf(0, MOST)");
        E.refused(NOTHING, BAD, "copyOf(0, 0)");
    }

    private static void shut() {
        E.says("`int shut(int door, int day, int what)`: SHUT: how many can (what = 0), must (1). BAD.");
        String[] acts = {"lump #*16 0 0 1 0", "lump #*16 0 59 1 0", "lump #*16 59 59 1 3"};
        ClaySeals x = Edges.with(acts);
        E.due(x, "shut(0, 0, 0)", 2);
        E.due(x, "shut(0, 0, 1)", 1);
        E.due(x, "shut(3, 59, 1)", 1);
        E.due(x, "shut(3, 58, 0)", 0);
        E.refused(acts, BAD, "shut(-1, 0, 0)", "shut(4, 0, 0)", "shut(0, -1, 0)", "shut(0, 60, 0)", "shut(0, 0, -1)",
            "shut(0, 0, 2)", "shut(LEAST, 0, 0)", "shut(0, MOST, 0)", "shut(0, 0, LEAST)");
        E.due(Edges.with("lump #*16 0 0 1 0 x12"), "shut(0, 0, 1)", 12);
    }

    private static void gap() {
        E.says("`int gap(int door)`: GAP. BAD.");
        String[] acts = {"lump #*16 0 0 1 3", "lump #*16 59 59 1 3"};
        E.dueOfEach(Edges.with(acts), "gap(%)", 0, 0, 0, 58, BAD);
        E.refused(acts, BAD, "gap(-1)", "gap(4)", "gap(LEAST)", "gap(MOST)");
        E.due(Edges.with("lump #*16 0 0 1 1 x11", "lump #*16 9 59 1 1"), "gap(1)", 8);
    }

    private static void clean() {
        E.says("`int clean()`: CLEAN; NONE. NOT; FULL.");
        E.due(Edges.with(), "clean()", NONE);
        E.due(Edges.with("ring #*16 x2", "lump ?*16 0 59"), "clean()", 0);
        E.due(Edges.with("ring #*16 x2", "lump ?*16 0 59 x12", "aside(2047)"), "clean()", 11);
        E.due(Edges.with("ring #*16 x2", "lump #*16 0 59"), "clean()", NONE);
        E.refused(NO_WAY, NOT, "clean()");
        E.refused(NINE, FULL, "clean()");
    }
}
