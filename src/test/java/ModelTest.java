import java.lang.reflect.InvocationTargetException;
import java.lang.reflect.Method;
import java.util.Arrays;
import java.util.HashMap;
import java.util.Map;
import java.util.Random;

/** Long runs of calls by lot (always the same ones), each answer held against the slow model. */
public final class ModelTest {
    private static final int RUNS = 240;
    private static final int CALLS = 512;
    private static final int[] ODD = {-1, -2, 48, 49, 41, 24, 25, 100, 256, 6, 10, Integer.MIN_VALUE,
        Integer.MAX_VALUE, Integer.MIN_VALUE + 1, 1 << 30};
    /** For each method the least and the greatest of each argument that mostly comes. */
    private static final Object[][] FACE = {
        {"letter", 8, 0, 255}, {"wall", 2}, {"set", 3, 0, 3, 0, 24}, {"wood", 6, 0, 47, 0, 16},
        {"weight", 6, 0, 15}, {"tool", 2, 0, 4, 0, 2}, {"telling", 14, 0, 4, 0, 47, 0, 1},
        {"nail", 6, 0, 47, 0, 1}, {"pipe", 4, 0, 47, 0, 9}, {"risk", 4, 0, 47}, {"hole", 4, 0, 47},
        {"fill", 1}, {"likely", 8, 0, 47, 0, 1}, {"sure", 6, 0, 1, -1, 12}, {"best", 4}, {"safest", 4},
        {"holes", 4, 0, 47}, {"mean", 4, 0, 47, 0, 1}, {"from", 1}, {"next", 1, 0, 4},
        {"worth", 1, 0, 4, 0, 1}, {"kind", 1}, {"covers", 6, 0, 47, 1, 40}, {"hang", 2, 1, 40},
        {"middle", 6, 1, 40, 0, 47}, {"two", 2, 1, 40}, {"both", 2, 1, 40, 0, 1}, {"wire", 3, 1, 40, 0, 40},
        {"twin", 4, 0, 47}, {"twinLikely", 4, 0, 47, 0, 47, 0, 1}, {"row", 12, 0, 99}, {"old", 5},
        {"happened", 5, 0, 4, 0, 1}, {"judge", 2}, {"lots", 1, 1, 6, -999, 999}, {"image", 1}, {"on", 1},
        {"count", 8, 0, 17},
    };
    private static final Map<String, Method> METHODS = new HashMap<>();

    public static void main(String[] args) throws Exception {
        for (Method m : ANailInTheWall.class.getDeclaredMethods()) {
            if (java.lang.reflect.Modifier.isPublic(m.getModifiers())) {
                METHODS.put(m.getName(), m);
            }
        }
        Checks.in("the list of this test");
        Checks.due("methods", FACE.length, METHODS.size());
        for (int run = 0; run < RUNS && !Checks.tooManyWrong(); run++) {
            Checks.in("run " + run);
            oneRun(new Random(1000 + run), run);
        }
        Checks.end();
    }

    private static void oneRun(Random lot, int run) throws Exception {
        ANailInTheWall real = new ANailInTheWall();
        Model model = new Model();
        int calls = 0;
        if (run % 4 != 0) {
            calls += startWall(lot, real, model);
        }
        int all = Arrays.stream(FACE).mapToInt(f -> (Integer) f[1]).sum();
        while (calls < CALLS && !Checks.tooManyWrong()) {
            if (lot.nextInt(12) == 0) {
                calls += tellText(lot, real, model);
                continue;
            }
            int at = lot.nextInt(all);
            int i = 0;
            while (at >= (Integer) FACE[i][1]) {
                at -= (Integer) FACE[i][1];
                i++;
            }
            compare(real, model, (String) FACE[i][0], arguments(lot, FACE[i], run));
            calls++;
        }
    }

    private static int startWall(Random lot, ANailInTheWall real, Model model) throws Exception {
        compare(real, model, "set", 3, lot.nextInt(6));
        compare(real, model, "set", 0, 6 + lot.nextInt(19));
        compare(real, model, "set", 1, 1 + lot.nextInt(4));
        compare(real, model, "set", 2, lot.nextInt(48));
        return 4;
    }

    private static int[] arguments(Random lot, Object[] face, int run) {
        int[] a = new int[(face.length - 2) / 2];
        for (int i = 0; i < a.length; i++) {
            int least = (Integer) face[2 + 2 * i];
            int most = (Integer) face[3 + 2 * i];
            int odd = lot.nextInt(30);
            if (odd == 0) {
                a[i] = ODD[lot.nextInt(ODD.length)];
            } else if (odd == 1) {
                a[i] = lot.nextBoolean() ? least : most;
            } else if (odd == 2) {
                a[i] = lot.nextBoolean() ? least - 1 : most + 1;
            } else {
                a[i] = least + lot.nextInt(most - least + 1);
            }
        }
        // Most runs seldom begin anew, so that weights grow apart.
        if (face[0].equals("set") && run % 3 != 0 && lot.nextInt(10) != 0) {
            a[0] = 4;
        }
        // A row in which few numbers contradict one another comes to an answer more often.
        if (face[0].equals("row") && lot.nextInt(3) != 0 && a[0] > 49 && a[0] < 100) {
            a[0] -= 50;
        }
        return a;
    }

    private static int tellText(Random lot, ANailInTheWall real, Model model) throws Exception {
        StringBuilder text = new StringBuilder();
        int statements = 1 + lot.nextInt(6);
        for (int i = 0; i < statements; i++) {
            text.append(statement(lot));
        }
        int change = lot.nextInt(8);
        int at = lot.nextInt(text.length());
        if (change == 0) {
            text.setLength(at);
        } else if (change == 1) {
            text.setCharAt(at, "s;,+-0x9lt".charAt(lot.nextInt(10)));
        } else if (change == 2) {
            text.insert(at, "s;,+-0x9lt".charAt(lot.nextInt(10)));
        } else if (change == 3) {
            text.deleteCharAt(at);
        }
        for (int i = 0; i < text.length(); i++) {
            compare(real, model, "letter", text.charAt(i));
        }
        compare(real, model, "wall");
        return text.length() + 1;
    }

    private static String statement(Random lot) {
        int bad = lot.nextInt(40) == 0 ? 1 : 0;
        String inch = String.format("%02d", lot.nextInt(48) + bad * 30);
        String sign = lot.nextBoolean() ? "+;" : "-;";
        switch (lot.nextInt(16)) {
            case 0: return "s" + (4 + lot.nextInt(23)) + "," + lot.nextInt(6) + ";";
            case 1: return "l" + "lrdchs".charAt(lot.nextInt(6)) + ";";
            case 2: return "d" + inch + ";";
            case 3: case 4: case 5: case 6: case 7: case 8: return "t" + (lot.nextInt(5) + bad) + inch + sign;
            case 9: case 10: case 11: case 12: return "n" + inch + (lot.nextInt(4) == 0 ? "+;" : "-;");
            default: return "p" + inch + lot.nextInt(10) + ";";
        }
    }

    private static void compare(ANailInTheWall real, Model model, String name, int... a) throws Exception {
        Object[] given = Arrays.stream(a).boxed().toArray();
        String call = name + Arrays.toString(a);
        long due = model.call(name, a);
        try {
            Checks.due(call, ((Number) METHODS.get(name).invoke(real, given)).longValue(), due);
        } catch (InvocationTargetException e) {
            Checks.dueTrue(call + " threw " + e.getCause(), false);
        }
    }
}
