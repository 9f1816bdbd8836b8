/** Promises 1 to 4: a new object, type, wipe, fault. */
public final class LinesTest {
    private static final Checks CHECKS = new Checks();

    public static void main(String[] args) {
        newObject();
        objectsAreApart();
        typing();
        wiping();
        faultsOfSigns();
        faultsOfNumbers();
        faultsOfMany();
        CHECKS.finish();
    }

    private static void newObject() {
        ClaySeals x = new ClaySeals();
        for (int what = 0; what <= 6; what++) {
            CHECKS.due("new: count(" + what + ")", x.count(what), 0);
        }
        CHECKS.due("new: count(8)", x.count(8), 0);
        CHECKS.due("new: ringIs(0, 0)", x.ringIs(0, 0), -2);
        CHECKS.due("new: lumpIs(0, 0)", x.lumpIs(0, 0), -2);
        CHECKS.due("new: aside(0)", x.aside(0), 0);
        CHECKS.due("new: aside(1)", x.aside(1), -2);
        CHECKS.due("new: digest()", x.digest(), digestOfNothing());
        for (int s = 0; s < 4; s++) {
            CHECKS.due("new: lose(" + s + ")", x.lose(s), -11);
        }
    }

    private static long digestOfNothing() {
        int[] told = {0, 0, 0, 0, 0, 0, 0, 0, 1, 0, 0, 0, 0, 0};
        long h = 17;
        for (int v : told) {
            h = 31 * h + v;
        }
        return h;
    }

    private static void objectsAreApart() {
        ClaySeals x = new ClaySeals();
        ClaySeals y = new ClaySeals();
        x.type('#');
        x.sheet(0, 0, 5);
        Checks.ring(x, "#*16");
        Checks.lump(x, "#*16", 0, 0);
        x.get(1, 0, 0);
        CHECKS.due("another object: digest()", y.digest(), digestOfNothing());
        CHECKS.due("another object: count(8)", y.count(8), 0);
        CHECKS.due("another object: lose(0)", y.lose(0), -11);
    }

    private static void typing() {
        ClaySeals x = new ClaySeals();
        int[] bad = {-1, 256, Integer.MIN_VALUE, Integer.MAX_VALUE};
        for (int b : bad) {
            CHECKS.refused(x, "type(" + b + ")", () -> x.type(b), -2);
        }
        CHECKS.due("type(0)", x.type(0), 1);
        CHECKS.due("type(255)", x.type(255), 2);
        for (int n = 3; n <= 40; n++) {
            CHECKS.due("byte " + n, x.type(n), n);
            CHECKS.due("count(5)", x.count(5), n);
        }
        CHECKS.refused(x, "byte 41", () -> x.type('#'), -4);
        CHECKS.refused(x, "a wrong byte 41", () -> x.type(256), -2);
        CHECKS.due("count(5)", x.count(5), 40);
    }

    private static void wiping() {
        ClaySeals x = new ClaySeals();
        CHECKS.due("wipe() of nothing", x.wipe(), 0);
        Checks.line(x, "#*16");
        CHECKS.due("wipe()", x.wipe(), 4);
        CHECKS.due("count(5)", x.count(5), 0);
        CHECKS.due("wipe() again", x.wipe(), 0);
        CHECKS.due("fault() of nothing", x.fault(), 0);
        CHECKS.due("type() after it", x.type('.'), 1);
        Checks.line(x, "........................................");
        CHECKS.due("wipe() of 40", x.wipe(), 40);
        CHECKS.due("type() after 40", x.type('.'), 1);
    }

    private static void fault(String text, int want) {
        ClaySeals x = new ClaySeals();
        Checks.line(x, text);
        CHECKS.due("fault() of " + text, x.fault(), want);
        CHECKS.due("fault() of " + text + " again", x.fault(), want);
        CHECKS.due("count(5) of " + text, x.count(5), text.length());
        CHECKS.due("lump() of " + text, x.lump(0, 0, 0, 0), want == -1 ? 0 : -3);
        CHECKS.due("count(5) after lump() of " + text, x.count(5), want == -1 ? 0 : text.length());
    }

    private static void faultsOfSigns() {
        fault("", 0);
        fault("#", 1);
        fault(".", 1);
        fault("?", 1);
        fault("*", 0);
        fault("4", 0);
        fault("x", 0);
        fault(" ", 0);
        fault("#x", 1);
        fault("##..??##..??##.", 15);
        fault("##..??##..??##..", -1);
        fault("??.#??##..??##.?", -1);
        fault("##..??##..??##..#", 16);
        fault("##..??##..??##..x", 16);
        fault("##..??##..??##..*", 17);
        fault("##..??##..??##..*2", 17);
        fault("##..x?##..??##..", 4);
        fault("#.3", 2);
        fault("########################################", 16);
    }

    private static void faultsOfNumbers() {
        fault("#*", 2);
        fault("#**", 2);
        fault("#*#", 2);
        fault("#*x", 2);
        fault("#*0", 2);
        fault("#*1", 2);
        fault("#*1.", 2);
        fault("#*2", 3);
        fault("#*9", 3);
        fault("#*10", 4);
        fault("#*16", -1);
        fault("?*16", -1);
        fault(".*16", -1);
        fault("#*17", 2);
        fault("#*20", 2);
        fault("#*99", 2);
        fault("#*00", 2);
        fault("#*01", 2);
        fault("#*02", 4);
        fault("#*09", 4);
        fault("#*123", 4);
        fault("#*160", 4);
        fault("#*2*2", 3);
        fault("#*2x", 3);
        fault("#*16*", 4);
        fault("#*8.*8", -1);
        fault("#*8/", 3);
        fault("#*8:", 3);
        fault("#*/", 2);
        fault("#*:", 2);
    }

    private static void faultsOfMany() {
        fault("#*16.", 4);
        fault("#*16#", 4);
        fault("#*10.*7", 6);
        fault("#*10.*6", -1);
        fault("#*10.*16", 6);
        fault("#*14.*2", -1);
        fault("#*14.*3", 6);
        fault("#*15.", -1);
        fault("#*15.*2", 6);
        fault("#*15..", 5);
        fault("#*15", 4);
        fault("#*2.*2?*2#*2.*2?*2#*2.*2", -1);
        fault("#*2.*2?*2#*2.*2?*2#*2.*02", -1);
        fault("#*02.*02?*02#*02.*02?*02#*02.*02", -1);
        fault("#*02.*02?*02#*02.*02?*02#*02.*02##..??##", 32);
        fault("#*02.*02?*02#*02.*02?*02#*02.*", 30);
    }
}
