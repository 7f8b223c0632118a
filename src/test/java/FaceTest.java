import java.lang.reflect.Constructor;
import java.lang.reflect.Field;
import java.lang.reflect.Method;
import java.lang.reflect.Modifier;
import java.util.Set;
import java.util.TreeSet;

/** The public face: the document's constants, constructor and methods, and no other open member. */
public final class FaceTest {
    private static final Due due = new Due();
    private static final String[] METHODS = {
        "setSize 2", "addGroup 4", "addRect 1", "addSpot 3", "setBox 4", "setInk 3", "remove 1", "move 2",
        "nodeInfo 2", "nodeCount 0", "set 2", "setKnockout 2", "setPoint 3", "removePoint 2", "curve 2",
        "inverse 2", "simplify 1", "rendered 3", "ink 3", "inkOf 2", "touchedBy 2", "coverage 1", "plateAt 1",
        "greatestSum 0", "limitedPixels 0", "inkCount 0", "inkAt 2", "neededLimit 0", "thriftiestAmount 0",
        "disorderedPixels 0", "undo 0"};
    private static final String[] CONSTANTS = {
        "INVALID_ARGUMENT", "NOT_POSSIBLE", "LIMIT_REACHED", "NOT_FOUND", "GROUP", "RECT", "SPOT"};

    public static void main(String[] args) {
        constants();
        sameNames("methods", Set.of(METHODS), openMethods());
        sameNames("constants", Set.of(CONSTANTS), openFields());
        constructors();
        due.is("final class", SeparationDesk.class.getModifiers(), Modifier.PUBLIC | Modifier.FINAL);
        due.end();
    }

    private static void constants() {
        due.is("INVALID_ARGUMENT", SeparationDesk.INVALID_ARGUMENT, -1);
        due.is("NOT_POSSIBLE", SeparationDesk.NOT_POSSIBLE, -2);
        due.is("LIMIT_REACHED", SeparationDesk.LIMIT_REACHED, -3);
        due.is("NOT_FOUND", SeparationDesk.NOT_FOUND, -4);
        due.is("GROUP", SeparationDesk.GROUP, 0);
        due.is("RECT", SeparationDesk.RECT, 1);
        due.is("SPOT", SeparationDesk.SPOT, 2);
    }

    private static void sameNames(String what, Set<String> want, Set<String> got) {
        Set<String> missing = new TreeSet<>(want);
        missing.removeAll(got);
        Set<String> further = new TreeSet<>(got);
        further.removeAll(want);
        due.is("missing " + what + " " + missing, missing.size(), 0);
        due.is("further " + what + " " + further, further.size(), 0);
    }

    private static Set<String> openMethods() {
        Set<String> names = new TreeSet<>();
        for (Method method : SeparationDesk.class.getDeclaredMethods()) {
            if (Modifier.isPrivate(method.getModifiers())) {
                continue;
            }
            boolean asPromised = method.getModifiers() == Modifier.PUBLIC && method.getReturnType() == int.class;
            for (Class<?> type : method.getParameterTypes()) {
                asPromised &= type == int.class;
            }
            names.add(method.getName() + " " + (asPromised ? method.getParameterCount() : "otherwise"));
        }
        return names;
    }

    private static Set<String> openFields() {
        Set<String> names = new TreeSet<>();
        int promised = Modifier.PUBLIC | Modifier.STATIC | Modifier.FINAL;
        for (Field field : SeparationDesk.class.getDeclaredFields()) {
            if (!Modifier.isPrivate(field.getModifiers())) {
                boolean asPromised = field.getModifiers() == promised && field.getType() == int.class;
                names.add(field.getName() + (asPromised ? "" : " otherwise"));
            }
        }
        return names;
    }

    private static void constructors() {
        Constructor<?>[] constructors = SeparationDesk.class.getDeclaredConstructors();
        due.is("constructors", constructors.length, 1);
        due.is("public constructor", constructors[0].getModifiers(), Modifier.PUBLIC);
        due.is("its arguments", constructors[0].getParameterCount(), 0);
    }
}
