/** The edges that "What it is" and "Terms" of DOC.md name, each behind the sentence that names it. */
public final class EdgesOfTermsTest {
    private static final Edges E = new Edges();
    private static final int NONE = Edges.NONE, BAD = Edges.BAD, NOT = Edges.NOT, FULL = Edges.FULL;
    private static final int NULL = Edges.NULL, INDEX = Edges.INDEX, CAST = Edges.CAST, STORE = Edges.STORE;
    private static final int SIZE = Edges.SIZE;

    public static void main(String[] args) {
        lastCall();
        pictures();
        turned();
        mostRings();
        cutAnew();
        daysOfCutAnew();
        mostHeld();
        persons();
        daysOfHeld();
        pressedWhenHeld();
        mostLumps();
        cellsNotSeen();
        daysOfLumps();
        backs();
        doors();
        asideAtFirst();
        mostBytes();
        numbersOfLines();
        faultsOfBytes();
        faultsOfNumbers();
        faultsOfMany();
        faultsOfFew();
        lostAtFirst();
        forms();
        items();
        findings();
        eachFinding();
        E.finish();
    }

    private static void lastCall() {
        E.says("An object is used for at most 512 calls after it has been made; what later calls answer is free.");
        ClaySeals x = Edges.with("sheet(0, 2, 48)");
        for (int call = 2; call <= 511; call++) {
            x.put(0, 2, call % 48, call);
        }
        E.due(x, "get(0, 2, 31)", 511);
        // Asked and changed again and again, an object answers as a new one does.
        ClaySeals y = Edges.with("ring #*16 x2", "lump #?*15 0 59 x3");
        for (int k = 0; k < 200; k++) {
            y.aside(k % 8);
            E.due(y, "ways()", new int[] {512, 64, 64, 8, 64, 8, 8, 1}[k % 8]);
        }
    }

    private static void pictures() {
        E.says("A PICTURE has 16 cells: four rows of four, row by row; each with a mark (#) or none (.).");
        ClaySeals x = Edges.with("line #..............");
        E.due(x, "ring()", NOT);
        Edges.and(x, "line #................");
        E.due(x, "ring()", NOT);
        Edges.and(x, "ring #...............", "ring ...............#", "ring ....#...........", "ring ................",
            "ring ################");
        E.dueOfEach(x, "ringIs(%, 0)", 1, 32768, 16, 0, 65535);
        // The first cell of the second row, TURNED, lies in the first row: the third cell of it.
        Edges.and(x, "lump ..#............. 0 59");
        E.due(x, "can(0, 2)", 2);
    }

    private static void turned() {
        E.says("TURNED by a quarter to the right (0 to 3 times): what was in row r, place p, comes to row p, place 3 less r.");
        ClaySeals x = Edges.with("ring #...............", "ring .#..............", "lump #............... 0 59",
            "lump ...#............ 0 59", "lump ...............# 0 59", "lump ............#... 0 59",
            "lump .#.............. 0 59", "lump .......#........ 0 59", "lump ..............#. 0 59",
            "lump ........#....... 0 59");
        E.dueOfEach(x, "can(%, 0)", 1, 2, 4, 8, 0, 0, 0, 0);
        E.dueOfEach(x, "can(%, 1)", 0, 0, 0, 0, 1, 2, 4, 8);
        E.dueOfEach(x, "cells(%, 0, %, 1)", 1, 1, 1, 1);
        E.dueOfAll(x, BAD, "cells(0, 0, -1, 1)", "cells(0, 0, 4, 1)", "cells(0, 0, LEAST, 1)", "cells(0, 0, MOST, 1)");
        E.dueOfAll(x, BAD, "earlier(0, 0, -1, 1, 1)", "earlier(0, 0, 4, 1, 1)", "earlier(0, 0, 0, 1, -1)",
            "earlier(0, 0, 0, 1, 4)");
        E.due(x, "earlier(0, 0, 0, 3, 3)", 0);
    }

    private static void mostRings() {
        E.says("RINGS, 6 at most, each with a PICTURE.");
        ClaySeals x = Edges.with("ring #*16 x5", "line ##.*14");
        E.due(x, "ring()", 5);
        E.due(x, "ringIs(5, 0)", 3);
        Edges.and(x, "line #*16");
        E.due(x, "ring()", FULL);
        E.due(x, "count(0)", 6);
    }

    private static void cutAnew() {
        E.says("One may be told as CUT ANEW of another one told ahead (that was not itself cut anew into a third) on a"
            + " DAY (0 to 59): both are one STONE;");
        String[] three = {"ring #*16 x3"};
        E.dueOfAll(Edges.with(three), BAD, "anew(0, 0, 5)", "anew(2, 2, 5)", "anew(0, 1, 5)", "anew(1, 2, 5)");
        E.dueOfAll(Edges.with(three), BAD, "anew(1, 0, -1)", "anew(1, 0, 60)", "anew(1, 0, LEAST)", "anew(1, 0, MOST)");
        ClaySeals x = Edges.with(three);
        E.due(x, "anew(1, 0, 0)", 1);
        E.due(x, "anew(2, 0, 0)", NOT);
        E.dueOfEach(x, "ringIs(%, 3)", 0, 0, 2);
        E.due(x, "count(1)", 2);
        E.due(x, "anew(2, 1, 59)", 1);
        E.dueOfEach(x, "ringIs(%, 3)", 0, 0, 0);
        E.dueOfEach(x, "ringIs(%, 2)", NONE, 0, 59);
        E.due(x, "count(1)", 1);
    }

    private static void daysOfCutAnew() {
        E.says("the older one was pressed on that DAY or ahead, the newer one on that DAY or later.");
        String[] days = {"lump ?*16 0 0", "lump ?*16 1 1", "lump ?*16 29 29", "lump ?*16 30 30", "lump ?*16 31 31",
            "lump ?*16 58 58", "lump ?*16 59 59"};
        ClaySeals first = Edges.with("ring #*16 x2", "anew(1, 0, 0)");
        Edges.and(first, days);
        E.dueOfEach(first, "can(%, 0)", 15, 0, 0, 0, 0, 0, 0);
        E.dueOfEach(first, "can(%, 1)", 15, 15, 15, 15, 15, 15, 15);
        ClaySeals between = Edges.with("ring #*16 x2", "anew(1, 0, 30)");
        Edges.and(between, days);
        E.dueOfEach(between, "can(%, 0)", 15, 15, 15, 15, 0, 0, 0);
        E.dueOfEach(between, "can(%, 1)", 0, 0, 0, 15, 15, 15, 15);
        ClaySeals last = Edges.with("ring #*16 x2", "anew(1, 0, 59)");
        Edges.and(last, days);
        E.dueOfEach(last, "can(%, 0)", 15, 15, 15, 15, 15, 15, 15);
        E.dueOfEach(last, "can(%, 1)", 0, 0, 0, 0, 0, 0, 15);
    }

    private static void mostHeld() {
        E.says("HELD, 12 at most:");
        ClaySeals x = Edges.with("ring #*16", "held(0, 0, 0, 59) x11");
        E.due(x, "held(0, 7, 0, 59)", 11);
        E.due(x, "held(0, 7, 0, 59)", FULL);
        E.due(x, "count(4)", 12);
    }

    private static void persons() {
        E.says("a RING by a PERSON (0 to 7)");
        ClaySeals x = Edges.with("ring #*16", "lump ?*16 0 59");
        E.dueOfAll(x, BAD, "held(0, -1, 0, 59)", "held(0, 8, 0, 59)", "held(0, LEAST, 0, 59)", "held(0, MOST, 0, 59)");
        E.due(x, "held(0, 0, 0, 59)", 0);
        E.due(x, "held(0, 7, 0, 59)", 1);
        E.due(x, "pressed(0)", 1 | 1 << 7);
    }

    private static void daysOfHeld() {
        E.says("from a DAY to a DAY (not less):");
        ClaySeals x = Edges.with("ring #*16");
        E.dueOfAll(x, BAD, "held(0, 0, -1, 0)", "held(0, 0, 59, 60)", "held(0, 0, 60, 60)", "held(0, 0, 1, 0)",
            "held(0, 0, 59, 58)", "held(0, 0, -1, -1)", "held(0, 0, LEAST, 0)", "held(0, 0, 0, MOST)");
        E.due(x, "held(0, 0, 0, 0)", 0);
        E.due(x, "held(0, 0, 59, 59)", 1);
        E.due(x, "held(0, 0, 0, 59)", 2);
        E.due(x, "held(0, 0, 30, 31)", 3);
    }

    private static void pressedWhenHeld() {
        E.says("it was pressed in these DAYS; a RING without HELD in any.");
        ClaySeals x = Edges.with("ring #*16", "ring #*16", "held(0, 0, 10, 20)", "held(0, 0, 59, 59)", "lump ?*16 0 9",
            "lump ?*16 10 10", "lump ?*16 20 20", "lump ?*16 21 58", "lump ?*16 59 59", "lump ?*16 0 0");
        E.dueOfEach(x, "can(%, 0)", 0, 15, 15, 0, 15, 0);
        E.dueOfEach(x, "can(%, 1)", 15, 15, 15, 15, 15, 15);
    }

    private static void mostLumps() {
        E.says("LUMPS, 12 at most:");
        ClaySeals x = Edges.with("lump ?*16 0 59 x11", "line #*16");
        E.due(x, "lump(0, 0, 0, 0)", 11);
        Edges.and(x, "line #*16");
        E.due(x, "lump(0, 0, 0, 0)", FULL);
        E.due(x, "count(2)", 12);
    }

    private static void cellsNotSeen() {
        E.says("a PICTURE some of whose cells are not seen (?),");
        ClaySeals x = Edges.with("lump #.#.#.#.#.#.#.#. 0 59", "lump ?*16 0 59", "lump ?#*15 0 59", "lump .*15? 0 59");
        E.dueOfEach(x, "lumpIs(%, 1)", 0, 65535, 1, 32768);
        E.dueOfEach(x, "lumpIs(%, 0)", 0x5555, 0, 65534, 0);
    }

    private static void daysOfLumps() {
        E.says("DAYS from, to (0 to 59, the second not less) in which it was pressed,");
        ClaySeals x = Edges.with("line #*16");
        E.dueOfAll(x, BAD, "lump(-1, 0, 0, 0)", "lump(0, 60, 0, 0)", "lump(60, 60, 0, 0)", "lump(1, 0, 0, 0)",
            "lump(59, 58, 0, 0)", "lump(-1, -1, 0, 0)", "lump(LEAST, 0, 0, 0)", "lump(0, MOST, 0, 0)");
        E.due(x, "lump(0, 0, 0, 0)", 0);
        Edges.and(x, "line #*16");
        E.due(x, "lump(59, 59, 0, 0)", 1);
        Edges.and(x, "line #*16");
        E.due(x, "lump(0, 59, 0, 0)", 2);
        E.dueOfEach(x, "lumpIs(%, 2)", 0, 59, 0);
        E.dueOfEach(x, "lumpIs(%, 3)", 0, 59, 59);
    }

    private static void backs() {
        E.says("a BACK (0 string, 1 peg, 2 basket, 3 jar),");
        ClaySeals x = Edges.with("line #*16");
        E.dueOfAll(x, BAD, "lump(0, 0, -1, 0)", "lump(0, 0, 4, 0)", "lump(0, 0, LEAST, 0)", "lump(0, 0, MOST, 0)");
        Edges.and(x, "lump #*16 0 0 0 0", "lump #*16 1 1 1 0", "lump #*16 2 2 2 0", "lump #*16 3 3 3 0");
        E.dueOfEach(x, "lumpIs(%, 4)", 0, 1, 2, 3);
        E.dueOfEach(x, "shut(0, %, 0)", 0, 1, 0, 0);
    }

    private static void doors() {
        E.says("a DOOR (0 to 3).");
        ClaySeals x = Edges.with("line #*16");
        E.dueOfAll(x, BAD, "lump(0, 0, 0, -1)", "lump(0, 0, 0, 4)", "lump(0, 0, 0, LEAST)", "lump(0, 0, 0, MOST)");
        E.dueOfAll(x, BAD, "shut(-1, 0, 0)", "shut(4, 0, 0)", "gap(-1)", "gap(4)");
        Edges.and(x, "lump #*16 0 0 1 0", "lump #*16 0 0 1 3");
        E.dueOfEach(x, "lumpIs(%, 5)", 0, 3);
        E.dueOfEach(x, "shut(%, 0, 0)", 1, 0, 0, 1);
    }

    private static void asideAtFirst() {
        E.says("A LUMP may be ASIDE (none at first).");
        ClaySeals x = Edges.with("lump #*16 0 59 x11");
        E.due(x, "count(3)", 0);
        Edges.and(x, "aside(2047)", "lump #*16 0 59");
        E.due(x, "lumpIs(11, 6)", 0);
        E.due(x, "count(3)", 2047);
        E.due(x, "aside(4095)", 2047);
        E.due(x, "lumpIs(11, 6)", 1);
    }

    private static void mostBytes() {
        E.says("A LINE is a text of up to 40 bytes:");
        ClaySeals x = Edges.with("line ");
        E.due(x, "wipe()", 0);
        Edges.and(x, "type(120) x39");
        E.due(x, "type(0)", 40);
        E.due(x, "type(0)", FULL);
        E.due(x, "count(5)", 40);
        E.due(x, "wipe()", 40);
        E.due(x, "type(255)", 1);
        // The bytes that it had are none of it: neither a figure, nor a star, nor a sign.
        ClaySeals y = Edges.with("line #*16", "line #*1");
        E.due(y, "fault()", 2);
        Edges.and(y, "line #*16", "line #*");
        E.due(y, "fault()", 2);
        Edges.and(y, "line #*16", "line #");
        E.due(y, "fault()", 1);
        Edges.and(y, "ring #*16", "type(35)");
        E.due(y, "fault()", 1);
    }

    private static void numbersOfLines() {
        E.says("signs #, ., ?, each perhaps with * and a number behind it (one or two figures, 2 to 16: so many times"
            + " it), 16 signs in all.");
        E.fault("#*16", NONE);
        E.fault(".*16", NONE);
        E.fault("?*16", NONE);
        E.fault("#*2.*14", NONE);
        E.fault("#*9.*7", NONE);
        E.fault("#*10.*6", NONE);
        E.fault("#.*15", NONE);
        E.fault("#*15?", NONE);
        E.fault("#.?#.?#.?#.?#.?#", NONE);
        E.fault("#*2.*2?*2#*2.*2?*2#*2.*2", NONE);
        E.fault("#*1.*15", 2);
        E.fault("#*17", 2);
        E.fault("#*0.*16", 2);
        E.fault("#*160", 4);
        E.fault("#*016", 2);
        ClaySeals x = Edges.with("ring #*2.*12#*2", "lump .?*14# 0 59");
        E.due(x, "ringIs(0, 0)", 3 | 3 << 14);
        E.due(x, "lumpIs(0, 1)", 0x7ffe);
        E.due(x, "lumpIs(0, 0)", 0x8000);
    }

    private static void faultsOfBytes() {
        E.says("The FAULT is the place of the first byte with which it cannot go on,");
        E.fault("*", 0);
        E.fault("5", 0);
        E.fault("x#*16", 0);
        E.fault("##x", 2);
        E.fault("#5", 1);
        E.fault("#**", 2);
        E.fault("#*#", 2);
        E.fault("#*x", 2);
        E.fault("#*/", 2);
        E.fault("#*:", 2);
        E.fault("#*8/", 3);
        E.fault("#*8:", 3);
        E.fault("#*8*", 3);
        E.fault("#*12*", 4);
        E.fault("#*123", 4);
        E.fault("#*16x", 4);
        ClaySeals x = Edges.with("line #*15", "type(0)");
        E.due(x, "fault()", 4);
        Edges.and(x, "line #*15", "type(255)", "type(35)");
        E.due(x, "fault()", 4);
        Edges.and(x, "line #*15", "type(163)");
        E.due(x, "fault()", 4);
    }

    private static void faultsOfNumbers() {
        E.says("of a number that may not be its first figure,");
        E.fault("#*0", 2);
        E.fault("#*1", 2);
        E.fault("#*1#", 2);
        E.fault("#*00", 2);
        E.fault("#*01", 2);
        E.fault("#*17", 2);
        E.fault("#*20", 2);
        E.fault("#*99", 2);
        E.fault("..#*99", 4);
    }

    private static void faultsOfMany() {
        E.says("of a sign, or of the first figure of a number, with which there are more than 16;");
        E.fault("#*16.", 4);
        E.fault("#*16?*2", 4);
        E.fault("#.?#.?#.?#.?#.?##", 16);
        E.fault("#*15..", 5);
        E.fault("#*15.*2", 6);
        E.fault("#*10.*7", 6);
        E.fault("#*10.*16", 6);
        E.fault("##*16", 3);
        E.fault("########################################", 16);
    }

    private static void faultsOfFew() {
        E.says("of a LINE with fewer its end.");
        E.fault("", 0);
        E.fault("#", 1);
        E.fault("#*", 2);
        E.fault("#*2", 3);
        E.fault("#*15", 4);
        E.fault("#..............", 15);
        E.fault("#*14.*", 6);
        E.fault("#*15.*", 6);
    }

    private static void lostAtFirst() {
        E.says("SHEETS 0 .. 3 are LOST (at first)");
        ClaySeals x = Edges.with();
        E.dueOfEach(x, "lose(%)", NULL, NULL, NULL, NULL);
        E.dueOfAll(x, BAD, "lose(-1)", "lose(4)", "lose(LEAST)", "lose(MOST)", "sheet(-1, 0, 0)", "sheet(4, 0, 0)");
        E.dueOfEach(x, "sheet(%, 0, 7)", 7, 7, 7, 7);
        E.dueOfEach(x, "lose(%)", 7, 7, 7, 7);
        E.dueOfEach(x, "lose(%)", NULL, NULL, NULL, NULL);
    }

    private static void forms() {
        E.says("or a row of a FORM: 0 bytes, 1 shorts, 2 ints,");
        ClaySeals x = Edges.with();
        E.dueOfAll(x, BAD, "sheet(0, -1, 5)", "sheet(0, 3, 5)", "sheet(0, LEAST, 5)", "sheet(0, MOST, 5)");
        Edges.and(x, "sheet(0, 0, 4)", "put(0, 0, 0, 127)", "put(0, 0, 1, 128)", "put(0, 0, 2, -129)", "put(0, 0, 3, 256)");
        E.dueOfEach(x, "get(0, 0, %)", 127, -128, 127, 0);
        Edges.and(x, "sheet(1, 1, 4)", "put(1, 1, 0, 32767)", "put(1, 1, 1, 32768)", "put(1, 1, 2, -32769)",
            "put(1, 1, 3, 65536)");
        E.dueOfEach(x, "get(1, 1, %)", 32767, -32768, 32767, 0);
        Edges.and(x, "sheet(2, 2, 3)", "put(2, 2, 0, MOST)", "put(2, 2, 1, LEAST)", "put(2, 2, 2, 65536)");
        E.dueOfEach(x, "get(2, 2, %)", Edges.MOST, Edges.LEAST, 65536);
    }

    private static void items() {
        E.says("of 0 to 48 items (0 at first).");
        ClaySeals x = Edges.with();
        E.due(x, "sheet(0, 0, 0)", 0);
        E.due(x, "put(0, 0, 0, 1)", INDEX);
        E.due(x, "sheet(0, 0, 48)", 48);
        E.due(x, "put(0, 0, 48, 1)", INDEX);
        E.due(x, "put(0, 0, 47, 1)", 1);
        E.due(x, "put(0, 0, 0, 1)", 1);
        E.due(x, "sheet(0, 0, 49)", BAD);
        E.due(x, "sheet(0, 0, MOST)", BAD);
        E.due(x, "sheet(0, 0, 48)", 48);
        E.due(x, "get(0, 0, 0)", 0);
        E.due(x, "get(0, 0, 47)", 0);
        Edges.and(x, "put(0, 0, 47, 9)", "lose(0)", "sheet(0, 2, 48)");
        E.due(x, "get(0, 2, 47)", 0);
    }

    private static void findings() {
        E.says("FINDINGS (answers -10 less the number; they change nothing but count() 8):");
        String[] acts = {"line #*3", "sheet(0, 0, 3)", "put(0, 0, 2, 5)", "sheet(1, 1, 3)", "put(1, 1, 0, 6)"};
        E.refused(acts, -11, "lose(2)");
        E.refused(acts, -12, "put(0, 0, 3, 7)");
        E.refused(acts, -13, "put(0, 1, 2, 7)");
        E.refused(acts, -14, "copy(0, 0, 1, 0, 3)");
        E.refused(acts, -15, "sheet(0, 0, -1)");
    }

    private static void eachFinding() {
        String[] acts = {"sheet(0, 0, 3)", "sheet(1, 1, 3)"};
        E.says("1 NULL: the SHEET is LOST;");
        E.refused(acts, NULL, "lose(2)", "read(2)", "put(2, 0, 0, 0)", "copy(0, 0, 2, 0, 0)", "copy(2, 0, 0, 0, 0)", "write(2)");
        E.found(acts, 1, "get(2, 0, 0)");
        E.says("2 INDEX: there is no such item;");
        E.refused(acts, INDEX, "put(0, 0, -1, 0)", "put(0, 0, 3, 0)", "put(0, 0, LEAST, 0)", "put(0, 0, MOST, 0)",
            "copy(0, 0, 0, 0, 4)");
        E.found(acts, 2, "get(0, 0, -1)", "get(0, 0, 3)");
        E.says("3 CAST: it has another FORM;");
        E.refused(acts, CAST, "put(0, 1, 0, 0)", "put(0, 2, 0, 0)", "put(1, 0, 0, 0)");
        E.found(acts, 3, "get(0, 1, 0)", "get(1, 2, 0)");
        E.says("4 STORE: unlike FORMS;");
        E.refused(acts, STORE, "copy(0, 0, 1, 0, 1)", "copy(1, 0, 0, 0, 0)");
        E.says("5 SIZE: below 0.");
        E.refused(acts, SIZE, "sheet(0, 0, -1)", "sheet(2, 2, -1)", "sheet(2, 1, LEAST)");
        E.due(Edges.with(), "sheet(2, 2, 0)", 0);
    }
}
