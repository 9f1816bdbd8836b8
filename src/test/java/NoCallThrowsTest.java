import java.lang.reflect.InvocationTargetException;
import java.lang.reflect.Method;
import java.util.ArrayList;
import java.util.Comparator;
import java.util.List;
import java.util.Random;

/** LANGUAGE.md, rule 7: no call throws, whatever it is given and whatever came ahead of it. */
public final class NoCallThrowsTest {
    private static final Checks CHECKS = new Checks();
    private static final int RUNS = 400;
    private static final int CALLS = 512;
    private static final int[] ODD = {Integer.MIN_VALUE, Integer.MIN_VALUE + 1, -2, -1, 0, 1, 2, 3, 4, 5, 6, 7, 8, 11,
        12, 15, 16, 17, 31, 32, 33, 35, 42, 46, 47, 48, 49, 59, 60, 63, 64, 255, 256, 4095, 4096, 65536,
        Integer.MAX_VALUE - 1, Integer.MAX_VALUE};
    private static final String[] LINES = {"#*16", "?*16", ".*16", "##..?*12", "#.#.#.#.#.#.#.#.", "#*15?", "##.*14",
        "#?*15", "#*", "####################"};

    public static void main(String[] args) throws IllegalAccessException {
        List<Method> acts = new ArrayList<>();
        for (Method m : ClaySeals.class.getMethods()) {
            if (m.getDeclaringClass() == ClaySeals.class) {
                acts.add(m);
            }
        }
        acts.sort(Comparator.comparing(Method::getName));
        for (int run = 0; run < RUNS; run++) {
            run(acts, new Random(run));
        }
        CHECKS.finish();
    }

    private static void run(List<Method> acts, Random chance) throws IllegalAccessException {
        ClaySeals x = new ClaySeals();
        int wild = chance.nextInt(10);
        for (int call = 0; call < CALLS;) {
            if (chance.nextInt(8) == 0) {
                String line = LINES[chance.nextInt(LINES.length)];
                Checks.line(x, line);
                call += line.length() + 1;
                if (chance.nextBoolean()) {
                    x.ring();
                } else {
                    x.lump(chance.nextInt(30), 30 + chance.nextInt(30), chance.nextInt(4), chance.nextInt(4));
                }
            }
            Method act = acts.get(chance.nextInt(acts.size()));
            Object[] given = new Object[act.getParameterCount()];
            for (int k = 0; k < given.length; k++) {
                given[k] = chance.nextInt(10) < wild ? ODD[chance.nextInt(ODD.length)] : chance.nextInt(4);
            }
            answers(x, act, given);
            call++;
        }
    }

    private static void answers(ClaySeals x, Method act, Object[] given) throws IllegalAccessException {
        int threw = 0;
        try {
            act.invoke(x, given);
        } catch (InvocationTargetException e) {
            threw = 1;
            e.getCause().printStackTrace(System.out);
        }
        CHECKS.due(act.getName() + java.util.Arrays.toString(given) + " threw", threw, 0);
    }
}
