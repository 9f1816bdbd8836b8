import java.util.Random;

/**
 * All promises: runs of calls chosen by chance (the same ones each time) on the program and on the Model,
 * every answer of the one held against that of the other. Other runs: java RandomRunsTest END FIRST.
 */
public final class RandomRunsTest {
    private static final Checks CHECKS = new Checks();

    private final Random chance;
    private final int number;
    private final ClaySeals x = new ClaySeals();
    private final Model m = new Model();
    private int calls = 0;

    private RandomRunsTest(int number) {
        this.number = number;
        chance = new Random(7919L * number + 13);
    }

    public static void main(String[] args) {
        int end = args.length > 0 ? Integer.parseInt(args[0]) : 1200;
        int first = args.length > 1 ? Integer.parseInt(args[1]) : 0;
        for (int run = first; run < end; run++) {
            new RandomRunsTest(run).run();
            if (run % 4 == 0) {
                new RandomRunsTest(run).runCrowded();
            }
        }
        CHECKS.finish();
    }

    private void due(String call, long got, long want) {
        calls++;
        CHECKS.due("run " + number + ", call " + calls + ": " + call, got, want);
    }

    private void run() {
        int wantedLumps = 1 + chance.nextInt(chance.nextInt(4) == 0 ? 12 : 6);
        int wantedRings = chance.nextInt(chance.nextInt(3) == 0 ? 7 : 4);
        int hidden = wantedLumps > 6 ? 25 : wantedLumps > 4 ? 50 : 80;
        int ringsTold = 0;
        int lumpsTold = 0;
        int steps = 30 + chance.nextInt(60);
        for (int step = 0; step < steps && calls < 440; step++) {
            int kind = chance.nextInt(12);
            if (kind < 2 && ringsTold < wantedRings) {
                ringsTold++;
                tellRing();
            } else if (kind < 4 && lumpsTold < wantedLumps) {
                lumpsTold++;
                tellLump(hidden);
            } else if (kind == 4) {
                tellMore();
            } else if (kind == 5) {
                sheetCall();
            } else if (kind == 6) {
                lineCall();
            } else if (kind == 7) {
                due("digest()", x.digest(), m.digest());
            } else {
                question();
            }
        }
        for (int lump = 0; lump < m.lumps.size(); lump++) {
            due("pressed(" + lump + ")", x.pressed(lump), m.pressed(lump));
            due("ones(" + lump + ")", x.ones(lump), m.ones(lump));
        }
        due("clean()", x.clean(), m.clean());
        due("count(8)", x.count(8), m.count(8));
        due("digest()", x.digest(), m.digest());
    }

    /** Few RINGS, and LUMPS that seldom AGREE: what can still follow hangs on each step of a search. */
    private void runCrowded() {
        int rings = 2 + chance.nextInt(2);
        int marks = 3 + chance.nextInt(6);
        String ring = someMarks(marks + chance.nextInt(17 - marks));
        for (int k = 0; k < rings; k++) {
            write(ring);
            due("ring()", x.ring(), m.ring());
            if (k > 0 && chance.nextInt(4) == 0) {
                int day = chance.nextInt(60);
                due("anew(" + k + ", " + (k - 1) + ", " + day + ")", x.anew(k, k - 1, day), m.anew(k, k - 1, day));
            }
            if (chance.nextInt(3) == 0) {
                int from = chance.nextInt(60), to = from + chance.nextInt(60 - from);
                due("held(" + k + ", " + k + ", " + from + ", " + to + ")", x.held(k, k, from, to),
                    m.held(k, k, from, to));
            }
        }
        int lumps = rings + 1 + chance.nextInt(chance.nextInt(8) == 0 ? 8 - rings : 3);
        int hidden = chance.nextInt(40);
        for (int k = 0; k < lumps; k++) {
            crowdedLump(ring, hidden);
            due("digest() with " + (k + 1) + " LUMPS", x.digest(), m.digest());
        }
        for (int k = 0; k < 4; k++) {
            int bits = chance.nextInt(1 << lumps);
            due("aside(" + bits + ")", x.aside(bits), m.aside(bits));
            due("digest()", x.digest(), m.digest());
        }
    }

    /** One that shows some of the RING's marks: of two such ones each is EARLIER, or they come in order. */
    private void crowdedLump(String ring, int hidden) {
        StringBuilder s = new StringBuilder(signs(Model.turn(Model.grid(ring), chance.nextInt(4))));
        for (int i = 0; i < 16; i++) {
            if (chance.nextInt(3) == 0) {
                s.setCharAt(i, '.');
            }
            if (chance.nextInt(100) < hidden) {
                s.setCharAt(i, '?');
            }
        }
        write(s.toString());
        int from = chance.nextInt(3) == 0 ? chance.nextInt(60) : 0;
        int to = chance.nextInt(3) == 0 ? from + chance.nextInt(60 - from) : 59;
        due("lump(" + from + ", " + to + ", 1, 1)", x.lump(from, to, 1, 1), m.lump(from, to, 1, 1));
    }

    private void type(int b) {
        due("type(" + b + ")", x.type(b), m.type(b));
    }

    private void wipe() {
        due("wipe()", x.wipe(), m.wipe());
    }

    private void write(String signs) {
        if (m.line.length() > 0) {
            wipe();
        }
        int i = 0;
        while (i < 16) {
            int run = 1;
            while (i + run < 16 && signs.charAt(i + run) == signs.charAt(i)) {
                run++;
            }
            if (run > 1 && chance.nextInt(4) == 0) {
                run = 1;
            }
            type(signs.charAt(i));
            if (run > 1) {
                type('*');
                for (char figure : String.valueOf(run).toCharArray()) {
                    type(figure);
                }
            }
            i += run;
        }
    }

    private String someMarks(int many) {
        StringBuilder s = new StringBuilder("................");
        for (int left = many; left > 0;) {
            int cell = chance.nextInt(16);
            if (s.charAt(cell) == '.') {
                s.setCharAt(cell, '#');
                left--;
            }
        }
        return s.toString();
    }

    private String someMarks() {
        int percent = 10 + 20 * chance.nextInt(5);
        StringBuilder s = new StringBuilder();
        for (int i = 0; i < 16; i++) {
            s.append(chance.nextInt(100) < percent ? '#' : '.');
        }
        return s.toString();
    }

    private static String signs(char[][] g) {
        StringBuilder s = new StringBuilder();
        for (char[] row : g) {
            s.append(row);
        }
        return s.toString();
    }

    private void tellRing() {
        String picture = someMarks();
        int kind = chance.nextInt(6);
        if (kind < 3 && !m.rings.isEmpty()) {
            char[][] like = m.rings.get(chance.nextInt(m.rings.size())).picture;
            StringBuilder s = new StringBuilder(signs(Model.turn(like, chance.nextInt(4))));
            for (int k = chance.nextInt(4); k > 0; k--) {
                s.setCharAt(chance.nextInt(16), chance.nextBoolean() ? '#' : '.');
            }
            picture = s.toString();
        } else if (kind == 3) {
            picture = "################";
        } else if (kind == 4) {
            char[] half = someMarks().substring(0, 4).toCharArray();
            char[][] g = {{half[0], half[1], half[1], half[0]}, {half[1], half[2], half[2], half[1]},
                {half[1], half[2], half[2], half[1]}, {half[0], half[1], half[1], half[0]}};
            picture = signs(g);
        }
        write(picture);
        due("ring()", x.ring(), m.ring());
    }

    private void tellLump(int hidden) {
        StringBuilder s = new StringBuilder(someMarks());
        if (chance.nextInt(8) > 0 && !m.rings.isEmpty()) {
            char[][] like = m.rings.get(chance.nextInt(m.rings.size())).picture;
            s = new StringBuilder(signs(Model.turn(like, chance.nextInt(4))));
            int chips = chance.nextInt(3) == 0 ? 40 : 10;
            for (int i = 0; i < 16; i++) {
                if (chance.nextInt(100) < chips) {
                    s.setCharAt(i, '.');
                }
            }
        }
        int percent = chance.nextInt(hidden + 1);
        for (int i = 0; i < 16; i++) {
            if (chance.nextInt(100) < percent) {
                s.setCharAt(i, '?');
            }
        }
        write(s.toString());
        int from = chance.nextInt(60);
        int to = from + chance.nextInt(60 - from);
        int width = chance.nextInt(4);
        if (width == 0) {
            to = from;
        } else if (width == 1) {
            from = 0;
            to = 59;
        }
        int back = chance.nextInt(3) == 0 ? chance.nextInt(4) : 1;
        int door = chance.nextInt(3) == 0 ? chance.nextInt(4) : 2;
        due("lump(" + from + ", " + to + ", " + back + ", " + door + ")", x.lump(from, to, back, door),
            m.lump(from, to, back, door));
    }

    /** A number below the bound, now and then one that is not. */
    private int below(int bound) {
        int odd = chance.nextInt(25);
        if (odd == 0) {
            return bound;
        }
        if (odd == 1) {
            return chance.nextBoolean() ? -1 : chance.nextBoolean() ? Integer.MIN_VALUE : Integer.MAX_VALUE;
        }
        return bound <= 0 ? 0 : chance.nextInt(bound);
    }

    private int someRing() {
        return below(m.rings.size());
    }

    private int someLump() {
        return below(m.lumps.size());
    }

    private void tellMore() {
        int kind = chance.nextInt(4);
        if (kind == 0) {
            int ring = someRing(), of = someRing(), day = below(60);
            due("anew(" + ring + ", " + of + ", " + day + ")", x.anew(ring, of, day), m.anew(ring, of, day));
        } else if (kind == 1) {
            int ring = someRing(), person = below(8), from = below(40);
            int to = chance.nextInt(4) == 0 ? below(60) : from + chance.nextInt(20);
            due("held(" + ring + ", " + person + ", " + from + ", " + to + ")", x.held(ring, person, from, to),
                m.held(ring, person, from, to));
        } else if (kind == 2) {
            int bits = m.lumps.isEmpty() ? below(2) : below(1 << m.lumps.size());
            bits &= chance.nextBoolean() ? -1 : chance.nextInt(4096);
            due("aside(" + bits + ")", x.aside(bits), m.aside(bits));
        } else {
            readHeld();
        }
    }

    private void readHeld() {
        int items = 4 * chance.nextInt(4) + chance.nextInt(4);
        int form = chance.nextInt(3);
        due("sheet(3, " + form + ", " + items + ")", x.sheet(3, form, items), m.sheet(3, form, items));
        for (int i = 0; i < items; i++) {
            int bound = i % 4 == 0 ? Math.max(1, m.rings.size()) : i % 4 == 1 ? 8 : 30;
            int v = chance.nextInt(bound) + (i % 4 == 3 ? 29 : 0);
            if (chance.nextInt(60) == 0) {
                v = 100;
            }
            due("put(3, " + form + ", " + i + ", " + v + ")", x.put(3, form, i, v), m.put(3, form, i, v));
        }
        due("read(3)", x.read(3), m.read(3));
    }

    private void lineCall() {
        if (chance.nextInt(3) == 0) {
            wipe();
        }
        String bytes = "##..??***0123456789x";
        for (int k = chance.nextInt(8); k > 0; k--) {
            type(chance.nextInt(20) == 0 ? below(256) : bytes.charAt(chance.nextInt(bytes.length())));
            due("fault()", x.fault(), m.fault());
        }
        if (chance.nextInt(4) == 0) {
            due("ring()", x.ring(), m.ring());
        }
        if (chance.nextInt(4) == 0) {
            int from = below(60), to = below(60), back = below(4), door = below(4);
            due("lump(" + from + ", " + to + ", " + back + ", " + door + ")", x.lump(from, to, back, door),
                m.lump(from, to, back, door));
        }
    }

    private void sheetCall() {
        int s = below(4), t = below(4), form = below(3), i = below(8), j = below(8);
        int v = chance.nextInt(3) == 0 ? chance.nextInt() : chance.nextInt(300) - 150;
        int n = below(chance.nextInt(4) == 0 ? 49 : 8);
        switch (chance.nextInt(8)) {
            case 0:
            case 1:
                due("sheet(" + s + ", " + form + ", " + n + ")", x.sheet(s, form, n), m.sheet(s, form, n));
                break;
            case 2:
                due("lose(" + s + ")", x.lose(s), m.lose(s));
                break;
            case 3:
            case 4:
                due("put(" + s + ", " + form + ", " + i + ", " + v + ")", x.put(s, form, i, v),
                    m.put(s, form, i, v));
                break;
            case 5:
                due("copy(" + s + ", " + i + ", " + t + ", " + j + ", " + n + ")", x.copy(s, i, t, j, n),
                    m.copy(s, i, t, j, n));
                break;
            case 6:
                due("write(" + s + ")", x.write(s), m.write(s));
                break;
            default:
                due("read(" + s + ")", x.read(s), m.read(s));
        }
        due("count(8)", x.count(8), m.count(8));
        due("get(" + t + ", " + form + ", " + j + ")", x.get(t, form, j), m.get(t, form, j));
        due("count(8)", x.count(8), m.count(8));
    }

    private void question() {
        int a = someLump(), b = someLump(), r = someRing(), q = someRing();
        int t = below(4), u = below(4), two = below(2);
        switch (chance.nextInt(22)) {
            case 0: due("lumpIs(" + a + ", .)", x.lumpIs(a, two + t), m.lumpIs(a, two + t)); break;
            case 1: due("ringIs(" + r + ", .)", x.ringIs(r, two + t), m.ringIs(r, two + t)); break;
            case 2: due("can(" + a + ", " + r + ")", x.can(a, r), m.can(a, r)); break;
            case 3:
                due("cells(" + a + ", " + r + ", " + t + ", " + two + ")", x.cells(a, r, t, two),
                    m.cells(a, r, t, two));
                break;
            case 4:
                due("earlier(" + r + ", " + a + ", " + t + ", " + b + ", " + u + ")", x.earlier(r, a, t, b, u),
                    m.earlier(r, a, t, b, u));
                break;
            case 5: due("ways()", x.ways(), m.ways()); break;
            case 6: due("stones()", x.stones(), m.stones()); break;
            case 7: due("best(" + a + ", " + two + ")", x.best(a, two), m.best(a, two)); break;
            case 8: due("may(" + a + ")", x.may(a), m.may(a)); break;
            case 9: due("sure()", x.sure(), m.sure()); break;
            case 10: due("pressed(" + a + ")", x.pressed(a), m.pressed(a)); break;
            case 11: due("empty()", x.empty(), m.empty()); break;
            case 12: due("leftOut()", x.leftOut(), m.leftOut()); break;
            case 13: due("joined(" + a + ", " + b + ")", x.joined(a, b), m.joined(a, b)); break;
            case 14: due("least()", x.least(), m.least()); break;
            case 15: due("ones(" + a + ")", x.ones(a), m.ones(a)); break;
            case 16: due("near(" + r + ", " + q + ")", x.near(r, q), m.near(r, q)); break;
            case 17:
                int most = below(17);
                due("copyOf(" + r + ", " + most + ")", x.copyOf(r, most), m.copyOf(r, most));
                break;
            case 18:
                int day = below(60);
                due("shut(" + t + ", " + day + ", " + two + ")", x.shut(t, day, two), m.shut(t, day, two));
                break;
            case 19: due("gap(" + t + ")", x.gap(t), m.gap(t)); break;
            case 20: due("clean()", x.clean(), m.clean()); break;
            default:
                int what = below(9);
                due("count(" + what + ")", x.count(what), m.count(what));
        }
    }
}
