import java.lang.reflect.Method;
import java.util.Arrays;
import java.util.Map;
import java.util.TreeMap;

/** Long mixed runs of calls, each answer compared with that of the plain model. The runs are always the same. */
public final class ModelTest {
    private static final int RUNS = 400;
    private static final int CALLS = 512;
    // a name that stands twice is called more often
    private static final String[] CHANGES = {
        "setSize", "addGroup", "addGroup", "addRect", "addRect", "addRect", "addSpot", "addSpot", "setBox", "setBox",
        "setInk", "setInk", "remove", "move", "move", "set", "set", "setKnockout", "setPoint", "setPoint", "setPoint",
        "removePoint", "simplify", "undo"};
    private static final String[] QUESTIONS = {
        "nodeInfo", "nodeInfo", "nodeCount", "curve", "inverse", "rendered", "rendered", "ink", "ink", "inkOf",
        "touchedBy", "coverage", "plateAt", "greatestSum", "limitedPixels", "inkCount", "inkAt", "inkAt",
        "neededLimit", "thriftiestAmount", "disorderedPixels"};
    private static final Due due = new Due();
    private static final Map<String, Method> real = methods(SeparationDesk.class);
    private static final Map<String, Method> model = methods(PlainDesk.class);
    private static long seed = 20261119;

    public static void main(String[] args) throws ReflectiveOperationException {
        for (int run = 0; run < RUNS; run++) {
            run(run);
        }
        due.end();
    }

    private static void run(int run) throws ReflectiveOperationException {
        SeparationDesk desk = new SeparationDesk();
        PlainDesk plain = new PlainDesk();
        // a run of many changes builds a page, one of few changes looks at it closely
        int changes = pick(20, 90);
        int wild = pick(0, 2) == 0 ? 5 : 100;
        for (int call = 0; call < CALLS; call++) {
            String name = pick(0, 99) < changes ? oneOf(CHANGES) : oneOf(QUESTIONS);
            if (isDear(name) && pick(0, 5) > 0) {
                name = "inkAt";
            }
            Object[] values = arguments(name, wild);
            int got = (Integer) real.get(name).invoke(desk, values);
            int want = (Integer) model.get(name).invoke(plain, values);
            due.is("run " + run + ", call " + call + ", " + name + Arrays.toString(values), got, want);
        }
    }

    /** The searches cost the model much. */
    private static boolean isDear(String name) {
        return name.equals("neededLimit") || name.equals("thriftiestAmount");
    }

    private static Map<String, Method> methods(Class<?> type) {
        Map<String, Method> methods = new TreeMap<>();
        for (Method method : type.getDeclaredMethods()) {
            methods.put(method.getName(), method);
        }
        return methods;
    }

    private static String oneOf(String[] names) {
        return names[pick(0, names.length - 1)];
    }

    private static int pick(int least, int greatest) {
        seed = seed * 6364136223846793005L + 1442695040888963407L;
        return least + (int) ((seed >>> 33) % (greatest - least + 1));
    }

    /** Mostly a value in the range, often one of its ends, and now and then one beyond it. */
    private static int value(int least, int greatest, int wild) {
        switch (pick(0, wild + 10)) {
            case 0: return least - 1;
            case 1: return greatest + 1;
            case 2: return least;
            case 3: return greatest;
            default: return pick(least, greatest);
        }
    }

    private static Object[] ranged(int wild, int... ranges) {
        Object[] values = new Object[ranges.length / 2];
        for (int i = 0; i < values.length; i++) {
            values[i] = value(ranges[2 * i], ranges[2 * i + 1], wild);
        }
        return values;
    }

    private static Object[] arguments(String name, int wild) {
        // low numbers are groups more often, so that trees grow deep
        int node = pick(0, 4) == 0 ? 23 : 4;
        switch (name) {
            case "setSize": return pick(0, 3) == 0 ? ranged(wild, 1, 12, 1, 12) : ranged(wild, 8, 12, 6, 12);
            case "addGroup": return ranged(wild, 0, node, pick(0, 1) * 60, 100, -4, 4, -4, 4);
            case "addRect": return ranged(wild, 0, node);
            case "addSpot": return ranged(wild, 0, node, 0, 2, 0, 255);
            case "setBox": return pick(0, 1) == 0
                ? ranged(wild, -12, 12, -12, 12, 1, 12, 1, 12) : ranged(wild, -2, 5, -2, 4, 3, 12, 3, 12);
            case "setInk": return ranged(wild, 0, 255, 0, 255, 0, 255);
            case "remove": return ranged(wild, pick(0, 4) == 0 ? 1 : 6, 23);
            case "move": return ranged(wild, 0, 23, 0, node);
            case "set": return setting(wild);
            case "setKnockout": return ranged(wild, 0, 2, 0, 1);
            case "setPoint": return point(wild);
            case "removePoint": return pick(0, 1) == 0 ? ranged(wild, 0, 0, 1, 16) : ranged(wild, 0, 6, 1, 254);
            case "simplify": return ranged(wild, 0, pick(0, 2) == 0 ? 6 : 0);
            case "nodeInfo": return ranged(wild, 0, pick(0, 1) == 0 ? 23 : 9, 0, 5);
            case "curve": case "inverse": return ranged(wild, 0, 6, 0, 255);
            case "rendered": return ranged(wild, 0, 7, 0, 5, 0, 5);
            case "ink": return ranged(wild, 0, 7, 0, 5, 0, 7);
            case "inkOf": return ranged(wild, 0, 0xffffff, 0, 7);
            case "touchedBy": return ranged(wild, 0, 7, 0, 5);
            case "coverage": return ranged(wild, 0, 7);
            case "plateAt": return ranged(wild, 0, 6);
            case "inkAt": return ranged(wild, 0, pick(0, 1) == 0 ? 5 : 60, 0, 8);
            default: return new Object[0];
        }
    }

    private static Object[] setting(int wild) {
        int what = value(0, 2, wild);
        int greatest = what == 0 ? 100 : what == 1 ? 255 : 1785;
        return new Object[] {what, value(0, pick(0, 1) == 0 ? greatest : greatest / 4, wild)};
    }

    /** Mostly points near the diagonal and at few inputs, so that many are possible and some stand already. */
    private static Object[] point(int wild) {
        int plate = value(0, pick(0, 1) * 6, wild);
        if (pick(0, 3) == 0) {
            return new Object[] {plate, value(0, 255, wild), value(0, 255, wild)};
        }
        int input = pick(0, 1) == 0 ? pick(1, 16) : 15 * pick(0, 17);
        return new Object[] {plate, input, Math.max(0, Math.min(255, input + pick(-12, 12)))};
    }
}
