import java.util.function.IntUnaryOperator;

/**
 * Every argument of every method at its least and greatest value, one beyond each, and far beyond: in its
 * range the call is answered, beyond it INVALID_ARGUMENT is returned.
 */
public final class RangesTest {
    private static final int INVALID = SeparationDesk.INVALID_ARGUMENT;
    private static final int NOT_FOUND = SeparationDesk.NOT_FOUND;
    private static final Due due = new Due();

    public static void main(String[] args) {
        page();
        nodes();
        parentsAndNodes();
        boxAndInk();
        settings();
        curves();
        pixels();
        colors();
        pageAsAWhole();
        sizesChangeTheRangesOfPixels();
        due.end();
    }

    /** Groups 1 and 2 (2 below 1), a rect 3 over the whole page, a spot 4, and a point at 1 and at 254 on every curve. */
    private static SeparationDesk desk() {
        SeparationDesk desk = new SeparationDesk();
        desk.addGroup(0, 100, 0, 0);
        desk.addGroup(1, 100, 0, 0);
        desk.setBox(0, 0, 12, 12);
        desk.addRect(0);
        desk.addSpot(0, 0, 100);
        for (int plate = 0; plate < 7; plate++) {
            desk.setPoint(plate, 1, 1);
            desk.setPoint(plate, 254, 254);
        }
        return desk;
    }

    private static SeparationDesk deskOfGroups(int groups) {
        SeparationDesk desk = new SeparationDesk();
        for (int i = 0; i < groups; i++) {
            desk.addGroup(0, 100, 0, 0);
        }
        return desk;
    }

    private static void range(String argument, int least, int greatest, IntUnaryOperator call) {
        answered(argument, call, least, greatest);
        refused(argument, call, least - 1, greatest + 1, Integer.MIN_VALUE, Integer.MAX_VALUE);
    }

    private static void answered(String argument, IntUnaryOperator call, int... values) {
        for (int value : values) {
            int got = call.applyAsInt(value);
            due.holds(argument + " " + value + " is answered, by " + got + ", which", got >= 0);
        }
    }

    private static void refused(String argument, IntUnaryOperator call, int... values) {
        for (int value : values) {
            due.is(argument + " " + value, call.applyAsInt(value), INVALID);
        }
    }

    private static void page() {
        range("setSize width", 1, 12, v -> desk().setSize(v, 5));
        range("setSize height", 1, 12, v -> desk().setSize(5, v));
    }

    private static void nodes() {
        range("addGroup opacity", 0, 100, v -> desk().addGroup(0, v, 0, 0));
        range("addGroup dx", -12, 12, v -> desk().addGroup(0, 50, v, 0));
        range("addGroup dy", -12, 12, v -> desk().addGroup(0, 50, 0, v));
        range("addSpot plate", 0, 2, v -> desk().addSpot(0, v, 5));
        range("addSpot tint", 0, 255, v -> desk().addSpot(0, 1, v));
        // -1 is the parent of the root, so the range of what is asked of another node
        range("nodeInfo what", 0, 5, v -> desk().nodeInfo(3, v));
        due.is("nodeInfo(0, 1)", desk().nodeInfo(0, 1), -1);
        due.is("nodeInfo(0, 0)", desk().nodeInfo(0, 0), 0);
        due.is("nodeInfo(0, 5)", desk().nodeInfo(0, 5), 0);
        due.is("nodeInfo(0, 6)", desk().nodeInfo(0, 6), INVALID);
    }

    private static void parentsAndNodes() {
        answered("nodeInfo node", v -> deskOfGroups(23).nodeInfo(v, 2), 0, 1, 23);
        answered("remove node", v -> deskOfGroups(23).remove(v), 1, 23);
        answered("move node", v -> deskOfGroups(23).move(v, 5), 1, 23);
        answered("move parent", v -> deskOfGroups(23).move(5, v), 0, 1, 23);
        answered("addGroup parent", v -> deskOfGroups(22).addGroup(v, 50, 0, 0), 0, 1, 22);
        answered("addRect parent", v -> deskOfGroups(22).addRect(v), 0, 1, 22);
        answered("addSpot parent", v -> deskOfGroups(22).addSpot(v, 0, 0), 0, 1, 22);
        due.is("remove the root", deskOfGroups(23).remove(0), SeparationDesk.NOT_POSSIBLE);
        due.is("move the root", deskOfGroups(23).move(0, 5), SeparationDesk.NOT_POSSIBLE);
        // a number up to 23 that no node has is refused like one beyond
        int[] numbers = {Integer.MIN_VALUE, -1, 5, 23, 24, Integer.MAX_VALUE};
        refused("nodeInfo node", v -> desk().nodeInfo(v, 0), numbers);
        refused("remove node", v -> desk().remove(v), numbers);
        refused("move node", v -> desk().move(v, 0), numbers);
        refused("move parent", v -> desk().move(3, v), numbers);
        refused("addGroup parent", v -> desk().addGroup(v, 50, 0, 0), numbers);
        refused("addRect parent", v -> desk().addRect(v), numbers);
        refused("addSpot parent", v -> desk().addSpot(v, 0, 0), numbers);
        // all 23 numbers are taken: there is still no node 24
        refused("nodeInfo node", v -> deskOfGroups(23).nodeInfo(v, 0), -1, 24);
        refused("remove node", v -> deskOfGroups(23).remove(v), -1, 24);
        refused("move node", v -> deskOfGroups(23).move(v, 0), -1, 24);
        refused("move parent", v -> deskOfGroups(23).move(3, v), -1, 24);
        refused("addRect parent", v -> deskOfGroups(23).addRect(v), -1, 24);
    }

    private static void boxAndInk() {
        range("setBox x", -12, 12, v -> desk().setBox(v, 0, 1, 1));
        range("setBox y", -12, 12, v -> desk().setBox(0, v, 1, 1));
        range("setBox w", 1, 12, v -> desk().setBox(0, 0, v, 1));
        range("setBox h", 1, 12, v -> desk().setBox(0, 0, 1, v));
        range("setInk red", 0, 255, v -> desk().setInk(v, 0, 0));
        range("setInk green", 0, 255, v -> desk().setInk(0, v, 0));
        range("setInk blue", 0, 255, v -> desk().setInk(0, 0, v));
    }

    private static void settings() {
        range("set what", 0, 2, v -> desk().set(v, 5));
        range("set A", 0, 100, v -> desk().set(0, v));
        range("set S", 0, 255, v -> desk().set(1, v));
        range("set L", 0, 1785, v -> desk().set(2, v));
        range("setKnockout plate", 0, 2, v -> desk().setKnockout(v, 1));
        range("setKnockout on", 0, 1, v -> desk().setKnockout(1, v));
    }

    private static void curves() {
        range("setPoint plate", 0, 6, v -> desk().setPoint(v, 100, 100));
        range("setPoint input", 0, 255, v -> desk().setPoint(1, v, v));
        range("setPoint output", 0, 255, v -> desk().setPoint(1, v == 0 ? 0 : 255, v));
        range("removePoint plate", 0, 6, v -> desk().removePoint(v, 1));
        range("removePoint input", 1, 254, v -> desk().removePoint(1, v));
        range("curve plate", 0, 6, v -> desk().curve(v, 100));
        range("curve input", 0, 255, v -> desk().curve(1, v));
        range("inverse plate", 0, 6, v -> desk().inverse(v, 100));
        range("inverse output", 0, 255, v -> desk().inverse(1, v));
        range("simplify plate", 0, 6, v -> desk().simplify(v));
    }

    private static void pixels() {
        range("rendered x", 0, 7, v -> desk().rendered(v, 0, 0));
        range("rendered y", 0, 5, v -> desk().rendered(0, v, 0));
        range("rendered what", 0, 5, v -> desk().rendered(0, 0, v));
        range("ink x", 0, 7, v -> desk().ink(v, 0, 0));
        range("ink y", 0, 5, v -> desk().ink(0, v, 0));
        range("ink plate", 0, 7, v -> desk().ink(0, 0, v));
        range("touchedBy x", 0, 7, v -> desk().touchedBy(v, 0));
        range("touchedBy y", 0, 5, v -> desk().touchedBy(0, v));
    }

    private static void colors() {
        range("inkOf color", 0, 16777215, v -> desk().inkOf(v, 7));
        range("inkOf plate", 0, 7, v -> desk().inkOf(1000, v));
    }

    private static void pageAsAWhole() {
        range("coverage plate", 0, 7, v -> desk().coverage(v));
        range("plateAt place", 0, 6, v -> desk().plateAt(v));
        range("inkAt what", 0, 8, v -> desk().inkAt(0, v));
        refused("inkAt place", v -> desk().inkAt(v, 0), -1, Integer.MIN_VALUE);
        due.is("inkAt place 0", desk().inkAt(0, 8), 48);
        due.is("inkAt place 1", desk().inkAt(1, 8), NOT_FOUND);
        due.is("inkAt the greatest place", desk().inkAt(Integer.MAX_VALUE, 8), NOT_FOUND);
    }

    /** "x: 0 to W - 1, y: 0 to H - 1" on the least page, the greatest one, and two that are not square. */
    private static void sizesChangeTheRangesOfPixels() {
        int[][] sizes = {{1, 1}, {12, 12}, {1, 12}, {12, 1}};
        for (int[] size : sizes) {
            range("rendered x", 0, size[0] - 1, v -> sized(size).rendered(v, 0, 0));
            range("rendered y", 0, size[1] - 1, v -> sized(size).rendered(0, v, 0));
            range("ink x", 0, size[0] - 1, v -> sized(size).ink(v, 0, 0));
            range("ink y", 0, size[1] - 1, v -> sized(size).ink(0, v, 0));
            range("touchedBy x", 0, size[0] - 1, v -> sized(size).touchedBy(v, 0));
            range("touchedBy y", 0, size[1] - 1, v -> sized(size).touchedBy(0, v));
        }
    }

    private static SeparationDesk sized(int[] size) {
        SeparationDesk desk = desk();
        desk.setSize(size[0], size[1]);
        return desk;
    }
}
