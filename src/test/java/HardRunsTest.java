import java.lang.management.ManagementFactory;

/**
 * States whose WAYS a plain search would take long for, and the room that the dearest calls take. All of it
 * must end soon.
 */
public final class HardRunsTest {
    private static final Checks CHECKS = new Checks();
    private static final long MOST_SECONDS = 120;

    /** Eight marks each, none like another one TURNED, nor like itself: no two LUMPS that show these AGREE. */
    private static final String[] APART = {"#....####..##..#", ".#.####....##.#.", "#..##.#..#.###..",
        "#.#......#.#####", "##...#..#.##.#.#", "#...####...#.##.", "..#####....###..", ".#.#.###.....###"};

    public static void main(String[] args) throws InterruptedException {
        Thread runs = new Thread(HardRunsTest::runs);
        runs.setDaemon(true);
        runs.start();
        runs.join(1000 * MOST_SECONDS);
        if (runs.isAlive()) {
            System.out.println("the runs did not end in " + MOST_SECONDS + " seconds");
            System.exit(1);
        }
        CHECKS.finish();
    }

    private static void runs() {
        moreLumpsThanRings();
        oneRingForTwo();
        theLastAgainstTheFirst();
        threeForTwoRings();
        room();
    }

    private static ClaySeals withRings(int many) {
        ClaySeals x = new ClaySeals();
        for (int k = 0; k < many; k++) {
            Checks.ring(x, "#*16");
        }
        return x;
    }

    private static void due(ClaySeals x, String of, int ways, int stones, int sure, int leftOut) {
        CHECKS.due(of + ": ways()", x.ways(), ways);
        CHECKS.due(of + ": stones()", x.stones(), stones);
        CHECKS.due(of + ": sure()", x.sure(), sure);
        CHECKS.due(of + ": leftOut()", x.leftOut(), leftOut);
    }

    private static void moreLumpsThanRings() {
        ClaySeals x = withRings(6);
        for (String text : APART) {
            Checks.lump(x, text, 0, 59);
        }
        due(x, "8 LUMPS, 6 RINGS", 0, -3, -3, 3);
        CHECKS.due("least()", x.least(), 8);
        for (int k = 0; k < 8; k++) {
            CHECKS.due("ones(" + k + ")", x.ones(k), k);
        }
        x.aside(16);
        due(x, "7 LUMPS, 6 RINGS", 0, -3, -3, 1);
        x.aside(16 + 2);
        due(x, "6 LUMPS, 6 RINGS", 20000, 6, 5, 0);
    }

    /** The first two are alike; the second one is of the last RING by its DAYS, so the first must be, too. */
    private static void oneRingForTwo() {
        ClaySeals x = withRings(6);
        for (int ring = 0; ring < 5; ring++) {
            x.held(ring, ring, 0, 29);
        }
        Checks.lump(x, APART[0], 0, 59);
        Checks.lump(x, APART[0], 30, 59);
        for (int k = 1; k < 6; k++) {
            Checks.lump(x, APART[k], 0, 29);
        }
        due(x, "two of the last RING", 20000, 6, 7, 0);
        int[] may = {32, 32, 1, 30, 30, 30, 30};
        int[] ring = {5, 5, 0, 1, 2, 3, 4};
        for (int k = 0; k < 7; k++) {
            CHECKS.due("may(" + k + ")", x.may(k), may[k]);
            CHECKS.due("best(" + k + ", 0)", x.best(k, 0), ring[k]);
            CHECKS.due("best(" + k + ", 1)", x.best(k, 1), 0);
        }
    }

    /** Only TURNED twice the first is not EARLIER than the last; those between can be led everywhere. */
    private static void theLastAgainstTheFirst() {
        ClaySeals x = new ClaySeals();
        Checks.ring(x, "#..#.#......#..#");
        for (int k = 1; k < 6; k++) {
            Checks.ring(x, "#*16");
            x.held(k, 0, 30, 59);
        }
        Checks.lump(x, "#?*15", 10, 10);
        for (int k = 1; k < 7; k++) {
            Checks.lump(x, "#?*15", 30, 59);
        }
        Checks.lump(x, ".??.?#??????.??#", 5, 5);
        x.held(0, 0, 0, 20);
        due(x, "the last against the first", 20000, 2, 143, 0);
        int[] may = {1, 2, 2, 2, 62, 62, 62, 1};
        for (int k = 0; k < 8; k++) {
            CHECKS.due("may(" + k + ")", x.may(k), may[k]);
            CHECKS.due("best(" + k + ", 0)", x.best(k, 0), k == 0 || k == 7 ? 0 : 1);
            CHECKS.due("best(" + k + ", 1)", x.best(k, 1), k == 0 ? 2 : 0);
        }
    }

    private static void threeForTwoRings() {
        ClaySeals x = withRings(6);
        for (int ring = 2; ring < 6; ring++) {
            x.held(ring, 0, 30, 59);
        }
        for (int k = 0; k < 5; k++) {
            Checks.lump(x, "#?*15", 0, 59);
        }
        for (int k = 0; k < 3; k++) {
            Checks.lump(x, APART[k], 0, 29);
        }
        due(x, "three for two RINGS", 0, -3, -3, 32);
        x.aside(64);
        CHECKS.due("two for two RINGS", x.ways(), 20000);
        CHECKS.due("leftOut()", x.leftOut(), 0);
    }

    /** A run of 512 calls: the object takes its room when it is made, and its calls take none. */
    private static void room() {
        com.sun.management.ThreadMXBean threads = (com.sun.management.ThreadMXBean) ManagementFactory.getThreadMXBean();
        long id = Thread.currentThread().getId();
        ClaySeals warm = withRings(1);
        warm.digest();
        long first = threads.getThreadAllocatedBytes(id);
        ClaySeals x = new ClaySeals();
        long made = threads.getThreadAllocatedBytes(id) - first;
        CHECKS.due("an object takes less than 64 KiB", made < 65536 ? 1 : 0, 1);
        for (int k = 0; k < 3; k++) {
            Checks.ring(x, "##.*14");
        }
        for (int k = 0; k < 12; k++) {
            Checks.lump(x, "?*16", 0, 59);
        }
        long before = threads.getThreadAllocatedBytes(id);
        for (int k = 0; k < 60; k++) {
            x.aside(15 << k % 8);
            x.digest();
            x.clean();
            x.pressed(k % 12);
            x.sheet(k % 4, k % 3, 48);
            x.write(k % 4);
        }
        long taken = threads.getThreadAllocatedBytes(id) - before;
        CHECKS.due("360 calls take less than 16 KiB", taken < 16384 ? 1 : 0, 1);
    }
}
