/** The edges that promises 32 to 39 of DOC.md name, each behind the sentence that names it. */
public final class EdgesOfSheetsTest {
    private static final Edges E = new Edges();
    private static final int NONE = Edges.NONE, BAD = Edges.BAD, NOT = Edges.NOT, FULL = Edges.FULL;
    private static final int NULL = Edges.NULL, INDEX = Edges.INDEX, CAST = Edges.CAST, STORE = Edges.STORE;
    private static final int SIZE = Edges.SIZE, LEAST = Edges.LEAST, MOST = Edges.MOST;

    /** SHEET 3 is LOST; the latest FINDING is 4. */
    private static final String[] SOME = {"sheet(0, 0, 3)", "put(0, 0, 0, 7)", "put(0, 0, 1, 8)", "put(0, 0, 2, 9)",
        "sheet(1, 1, 5)", "put(1, 1, 4, 11)", "sheet(2, 0, 0)", "try copy(0, 0, 1, 0, 0)"};

    public static void main(String[] args) {
        sheet();
        lose();
        put();
        get();
        copy();
        copyIndex();
        write();
        writeRefused();
        count();
        digest();
        digestOfThings();
        digestAsTold();
        digestThatWraps();
        E.finish();
    }

    private static void items(ClaySeals x, int s, int form, int... want) {
        for (int i = 0; i < want.length; i++) {
            E.due(x, "get(" + s + ", " + form + ", " + i + ")", want[i]);
        }
    }

    private static void sheet() {
        E.says("`int sheet(int s, int form, int n)`: A SHEET is a new row of a FORM with n items: n. BAD: SHEET, FORM, above 48;"
            + " SIZE.");
        ClaySeals x = Edges.with(SOME);
        E.due(x, "sheet(0, 2, 48)", 48);
        items(x, 0, 2, 0, 0, 0);
        E.due(x, "get(0, 2, 47)", 0);
        E.due(x, "sheet(0, 2, 0)", 0);
        E.due(x, "put(0, 2, 0, 1)", INDEX);
        E.due(x, "sheet(3, 1, 1)", 1);
        E.due(x, "put(3, 1, 0, 1)", 1);
        items(x, 1, 1, 0, 0, 0, 0, 11);
        E.refused(SOME, BAD, "sheet(-1, 0, 1)", "sheet(4, 0, 1)", "sheet(LEAST, 0, 1)", "sheet(MOST, 0, 1)", "sheet(0, -1, 1)",
            "sheet(0, 3, 1)", "sheet(0, LEAST, 1)", "sheet(0, MOST, 1)", "sheet(0, 0, 49)", "sheet(0, 0, MOST)",
            "sheet(4, 0, -1)", "sheet(0, 3, -1)");
        E.refused(SOME, SIZE, "sheet(0, 0, -1)", "sheet(0, 2, LEAST)", "sheet(3, 0, -1)");
    }

    private static void lose() {
        E.says("`int lose(int s)`: It is LOST: how many items it had. BAD; NULL.");
        ClaySeals x = Edges.with(SOME);
        E.dueOfEach(x, "lose(%)", 3, 5, 0, NULL, BAD);
        E.dueOfEach(x, "lose(%)", NULL, NULL, NULL, NULL, BAD);
        E.due(Edges.with("sheet(3, 2, 48)"), "lose(3)", 48);
        E.refused(SOME, BAD, "lose(-1)", "lose(4)", "lose(LEAST)", "lose(MOST)");
        E.refused(SOME, NULL, "lose(3)");
    }

    private static void put() {
        E.says("`int put(int s, int form, int i, int v)`: Item i, treated as of a FORM, becomes v (the lowest bits that it has,"
            + " with its sign; by write(), too): 1.");
        int[] values = {0, -1, 127, 128, -128, -129, 255, 256, 32767, 32768, -32768, -32769, 65535, 65536, LEAST, MOST};
        int[] bytes = {0, -1, 127, -128, -128, 127, -1, 0, -1, 0, 0, -1, -1, 0, 0, -1};
        int[] shorts = {0, -1, 127, 128, -128, -129, 255, 256, 32767, -32768, -32768, 32767, -1, 0, 0, -1};
        int[][] kept = {bytes, shorts, values};
        for (int form = 0; form < 3; form++) {
            ClaySeals x = Edges.with("sheet(0, " + form + ", 16)");
            for (int i = 0; i < 16; i++) {
                E.due(x, "put(0, " + form + ", " + i + ", " + values[i] + ")", 1);
            }
            items(x, 0, form, kept[form]);
            // NONE of a LUMP that is ASIDE has a sign in each FORM.
            Edges.and(x, "lump #*16 0 59", "aside(1)", "write(0)");
            E.due(x, "get(0, " + form + ", 0)", NONE);
        }
        E.says("BAD; NULL; CAST; INDEX.");
        E.refused(SOME, BAD, "put(-1, 0, 0, 1)", "put(4, 0, 0, 1)", "put(0, -1, 0, 1)", "put(0, 3, 0, 1)", "put(LEAST, 0, 0, 1)",
            "put(MOST, 0, 0, 1)", "put(0, LEAST, 0, 1)", "put(0, MOST, 0, 1)", "put(3, 3, 0, 1)");
        E.refused(SOME, NULL, "put(3, 0, 0, 1)", "put(3, 2, -1, 1)");
        E.refused(SOME, CAST, "put(0, 1, 0, 1)", "put(0, 2, 3, 1)", "put(1, 0, -1, 1)", "put(2, 1, 0, 1)");
        E.refused(SOME, INDEX, "put(0, 0, -1, 1)", "put(0, 0, 3, 1)", "put(0, 0, LEAST, 1)", "put(0, 0, MOST, 1)",
            "put(1, 1, 5, 1)", "put(2, 0, 0, 1)");
    }

    private static void get() {
        E.says("`int get(int s, int form, int i)`: Item i of it. BAD: the least int; so are NULL, CAST, INDEX (count() 8 tells).");
        ClaySeals x = Edges.with(SOME);
        items(x, 0, 0, 7, 8, 9);
        E.due(x, "get(1, 1, 4)", 11);
        E.due(x, "count(8)", 4);
        E.found(SOME, 4, "get(-1, 0, 0)", "get(4, 0, 0)", "get(0, -1, 0)", "get(0, 3, 0)", "get(LEAST, 0, 0)", "get(MOST, 0, 0)",
            "get(0, LEAST, 0)", "get(0, MOST, 0)", "get(3, 3, 0)");
        E.found(SOME, 1, "get(3, 0, 0)", "get(3, 2, -1)");
        E.found(SOME, 3, "get(0, 1, 0)", "get(0, 2, 3)", "get(1, 0, -1)");
        E.found(SOME, 2, "get(0, 0, -1)", "get(0, 0, 3)", "get(0, 0, LEAST)", "get(0, 0, MOST)", "get(2, 0, 0)");
    }

    private static void copy() {
        E.says("`int copy(int s, int i, int t, int j, int n)`: n items of SHEET s, from i on, come to SHEET t (perhaps s, as they"
            + " were), from j on: 1.");
        ClaySeals x = Edges.with("sheet(0, 2, 4)", "put(0, 2, 0, 10)", "put(0, 2, 1, 11)", "put(0, 2, 2, 12)", "put(0, 2, 3, 13)",
            "sheet(3, 2, 2)");
        E.due(x, "copy(0, 0, 0, 1, 3)", 1);
        items(x, 0, 2, 10, 10, 11, 12);
        E.due(x, "copy(0, 1, 0, 0, 3)", 1);
        items(x, 0, 2, 10, 11, 12, 12);
        E.due(x, "copy(0, 2, 3, 0, 2)", 1);
        items(x, 3, 2, 12, 12);
        E.due(x, "copy(0, 1, 3, 1, 1)", 1);
        items(x, 3, 2, 12, 11);
        E.due(x, "copy(3, 0, 0, 0, 0)", 1);
        items(x, 0, 2, 10, 11, 12, 12);
        E.says("BAD: the SHEETS; NULL: s, t; STORE;");
        E.refused(SOME, BAD, "copy(-1, 0, 0, 0, 0)", "copy(4, 0, 0, 0, 0)", "copy(0, 0, -1, 0, 0)", "copy(0, 0, 4, 0, 0)",
            "copy(LEAST, 0, 0, 0, 0)", "copy(0, 0, MOST, 0, 0)", "copy(4, 0, 3, 0, 0)", "copy(3, 0, 4, 0, 0)");
        E.refused(SOME, NULL, "copy(3, 0, 0, 0, 0)", "copy(0, 0, 3, 0, 0)", "copy(3, 0, 3, 0, 0)", "copy(3, -1, 0, 0, 0)");
        E.refused(SOME, STORE, "copy(0, 0, 1, 0, 0)", "copy(1, 0, 0, 0, 1)", "copy(0, -1, 1, 0, 9)");
    }

    private static void copyIndex() {
        E.says("INDEX: i, j or n below 0, not so many there (of n 0, too: i or j above the size).");
        String[] acts = {"sheet(0, 1, 3)", "put(0, 1, 2, 5)", "sheet(1, 1, 5)", "put(1, 1, 4, 6)", "sheet(2, 1, 0)"};
        E.refused(acts, INDEX, "copy(0, -1, 1, 0, 1)", "copy(0, 0, 1, -1, 1)", "copy(0, 0, 1, 0, -1)", "copy(0, -1, 1, 0, 0)",
            "copy(0, 0, 1, -1, 0)", "copy(0, 0, 1, 0, 4)", "copy(0, 1, 1, 0, 3)", "copy(0, 3, 1, 0, 1)", "copy(1, 0, 0, 0, 4)",
            "copy(1, 0, 0, 1, 3)", "copy(1, 0, 0, 3, 1)", "copy(0, 4, 1, 0, 0)", "copy(0, 0, 1, 6, 0)", "copy(2, 1, 2, 0, 0)",
            "copy(2, 0, 0, 0, 1)", "copy(0, 0, 2, 0, 1)", "copy(0, LEAST, 1, 0, 0)", "copy(0, 0, 1, LEAST, 0)",
            "copy(0, 0, 1, 0, LEAST)", "copy(0, MOST, 1, 0, 1)", "copy(0, 0, 1, MOST, 1)", "copy(0, 1, 1, 1, MOST)",
            "copy(0, MOST, 1, MOST, MOST)");
        ClaySeals x = Edges.with(acts);
        E.dueOfAll(x, 1, "copy(0, 3, 1, 5, 0)", "copy(0, 0, 1, 5, 0)", "copy(2, 0, 2, 0, 0)", "copy(2, 0, 0, 3, 0)");
        E.due(x, "copy(0, 0, 1, 2, 3)", 1);
        items(x, 1, 1, 0, 0, 0, 0, 5);
        E.due(x, "copy(1, 4, 0, 0, 1)", 1);
        items(x, 0, 1, 5, 0, 5);
    }

    private static void write() {
        E.says("`int write(int s)`: BEST RINGS of LUMPS 0 on (as best() 0) come to a SHEET from item 0 on, as many as there are"
            + " items and LUMPS: how many.");
        E.due(Edges.with("sheet(0, 0, 48)"), "write(0)", 0);
        String[] acts = {"ring ##.*14", "ring #.#.*13", "lump #.#.*13 0 59", "lump ##.*14 0 59", "lump #*16 0 59", "aside(4)"};
        for (int form = 0; form < 3; form++) {
            ClaySeals x = Edges.with(acts);
            Edges.and(x, "sheet(0, " + form + ", 0)", "sheet(1, " + form + ", 2)", "sheet(2, " + form + ", 3)",
                "sheet(3, " + form + ", 5)", "put(3, " + form + ", 3, 33)", "put(3, " + form + ", 4, 44)");
            E.dueOfEach(x, "write(%)", 0, 2, 3, 3);
            items(x, 1, form, 1, 0);
            items(x, 2, form, 1, 0, NONE);
            items(x, 3, form, 1, 0, NONE, 33, 44);
        }
        ClaySeals all = Edges.with("lump #*16 0 59 x12", "aside(4095)", "sheet(0, 2, 48)");
        E.due(all, "write(0)", 12);
        E.due(all, "get(0, 2, 11)", NONE);
        E.due(all, "get(0, 2, 12)", 0);
    }

    private static void writeRefused() {
        E.says("BAD; NULL; NOT; FULL.");
        String[] noWay = {"ring .*16", "lump #*16 0 59", "sheet(0, 0, 2)", "put(0, 0, 0, 9)", "sheet(1, 0, 0)"};
        String[] nine = {"ring #*16", "lump #*16 0 59 x9", "sheet(0, 0, 2)", "put(0, 0, 0, 9)", "sheet(1, 0, 0)"};
        for (String[] acts : new String[][] {SOME, noWay, nine}) {
            E.refused(acts, BAD, "write(-1)", "write(4)", "write(LEAST)", "write(MOST)");
            E.refused(acts, NULL, "write(3)");
        }
        E.refused(noWay, NOT, "write(0)", "write(1)");
        E.refused(nine, FULL, "write(0)", "write(1)");
    }

    private static void count() {
        E.says("`int count(int what)`: 0 RINGS, 1 STONES of all RINGS, 2 LUMPS, 3 those ASIDE (bits), 4 HELD ones, 5 bytes of the"
            + " LINE, 6 cells not seen of all LUMPS, 8 the number of the latest FINDING (0 before any). BAD.");
        ClaySeals none = Edges.with();
        E.dueOfEach(none, "count(%)", 0, 0, 0, 0, 0, 0, 0, BAD, 0, BAD);
        String[] full = {"ring #*16 x6", "anew(1, 0, 0)", "held(0, 0, 0, 59) x12", "lump ?*16 0 59 x12", "aside(4095)",
            "line ........................................", "try sheet(0, 0, -1)"};
        E.dueOfEach(Edges.with(full), "count(%)", 6, 5, 12, 4095, 12, 40, 192, BAD, 5, BAD);
        E.refused(full, BAD, "count(-1)", "count(7)", "count(9)", "count(LEAST)", "count(MOST)");
        ClaySeals x = Edges.with(SOME);
        E.due(x, "count(8)", 4);
        E.due(x, "lose(3)", NULL);
        E.due(x, "count(8)", 1);
        E.due(x, "lose(4)", BAD);
        E.due(x, "lose(2)", 0);
        E.due(x, "count(8)", 1);
    }

    private static long mix(long h, int... told) {
        long mixed = h;
        for (int v : told) {
            mixed = 31 * mixed + v;
        }
        return mixed;
    }

    private static void digest() {
        E.says("`long digest()`: h is 17; h becomes 31 h and each of");
        E.due(Edges.with(), "digest()", mix(17, 0, 0, 0, 0, 0, 0, 0, 0, 1, 0, 0, 0, 0, 0));
        E.says("count() 0 to 6; fault();");
        ClaySeals x = Edges.with("line #*16");
        E.due(x, "digest()", mix(17, 0, 0, 0, 0, 0, 4, 0, NONE, 1, 0, 0, 0, 0, 0));
        Edges.and(x, "line #*17");
        E.due(x, "digest()", mix(17, 0, 0, 0, 0, 0, 4, 0, 2, 1, 0, 0, 0, 0, 0));
        Edges.and(x, "try lose(0)", "sheet(0, 0, 3)", "put(0, 0, 0, 3)");
        E.due(x, "digest()", mix(17, 0, 0, 0, 0, 0, 4, 0, 2, 1, 0, 0, 0, 0, 0));
    }

    private static void digestOfThings() {
        E.says("(of each thing all that is told of it, then of the next one):");
        ClaySeals rings = Edges.with("ring ##.*14", "ring #.*15", "held(1, 0, 0, 59)");
        E.due(rings, "digest()", mix(17, 2, 2, 0, 0, 1, 0, 0, 0, 3, NONE, NONE, 0, 0, 1, NONE, NONE, 1, 1, 1, 0, 0, 1, 0, 0));
        E.says("of RINGS ringIs() 0 to 4; of LUMPS lumpIs() 0 to 6, best() 0, 1, may()");
        ClaySeals x = Edges.with("ring ##.*14", "ring ##.*14", "anew(1, 0, 30)", "held(1, 2, 20, 59)", "lump #.?*14 31 59 1 2",
            "lump ##.*14 40 40 3 0", "lump ...#...#.*8 5 6 0 3", "aside(2)");
        long h = mix(17, 2, 1, 3, 2, 1, 0, 14, 0);
        h = mix(h, 3, NONE, NONE, 0, 0);
        h = mix(h, 3, 0, 30, 0, 1);
        h = mix(h, 1, 0xfffc, 31, 59, 1, 2, 0, 1, 0, 2);
        h = mix(h, 3, 0, 40, 40, 3, 0, 1, NONE, NONE, 0);
        h = mix(h, 136, 0, 5, 6, 0, 3, 0, 0, 1, 1);
        h = mix(h, 1, 1, 5, 0, 0, 1);
        E.due(x, "digest()", h);
    }

    private static void digestAsTold() {
        E.says("(as they are told); ways(), stones(), sure(), empty(), leftOut(), least() (as they are told);");
        ClaySeals noWay = Edges.with("lump #*16 0 59", "lump #*16 5 5", "aside(2)");
        long h = mix(17, 0, 0, 2, 2, 0, 0, 0, 0);
        h = mix(h, 65535, 0, 0, 59, 0, 0, 0, NOT, NOT, NOT);
        h = mix(h, 65535, 0, 5, 5, 0, 0, 1, NOT, NOT, NOT);
        E.due(noWay, "digest()", mix(h, 0, NOT, NOT, NOT, 1, 1));
        ClaySeals nine = Edges.with("ring #*16", "lump #*16 0 59 x10", "aside(1)");
        long g = mix(17, 1, 1, 10, 1, 0, 0, 0, 0, 65535, NONE, NONE, 0, 0);
        for (int k = 0; k < 10; k++) {
            g = mix(g, 65535, 0, 0, 59, 0, 0, k == 0 ? 1 : 0, FULL, FULL, FULL);
        }
        E.due(nine, "digest()", mix(g, FULL, FULL, FULL, FULL, FULL, FULL));
    }

    private static void digestThatWraps() {
        E.says("as longs that wrap.");
        // 14 numbers: 31 to the 14th, times 17, is beyond the greatest long.
        java.math.BigInteger h = java.math.BigInteger.valueOf(17);
        int[] told = {0, 0, 0, 0, 0, 3, 0, 3, 1, 0, 0, 0, 0, 0};
        for (int v : told) {
            h = h.multiply(java.math.BigInteger.valueOf(31)).add(java.math.BigInteger.valueOf(v));
        }
        E.due(Edges.with("line ###"), "digest()", h.longValue());
    }
}
