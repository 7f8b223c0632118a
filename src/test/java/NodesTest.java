/** Promises 1 to 11: a new object, the size of the page, and its nodes. */
public final class NodesTest {
    private static final int INVALID = SeparationDesk.INVALID_ARGUMENT;
    private static final int IMPOSSIBLE = SeparationDesk.NOT_POSSIBLE;
    private static final int FULL = SeparationDesk.LIMIT_REACHED;
    private static final int LEAST = Integer.MIN_VALUE;
    private static final int MOST = Integer.MAX_VALUE;
    private static final Due due = new Due();

    public static void main(String[] args) {
        newObject();
        newObjectSettings();
        setSize();
        addGroup();
        addRect();
        addSpot();
        addErrorsInOrder();
        lowestFreeNumber();
        setBox();
        setInk();
        boxAndInkAreNoChanges();
        remove();
        move();
        moveWithinAGroup();
        moveErrors();
        moveCarriesDepthOpacityAndOffset();
        nodeInfo();
        nodeCount();
        due.end();
    }

    private static void newObject() {
        SeparationDesk desk = new SeparationDesk();
        due.is("nodes of a new page", desk.nodeCount(), 1);
        due.is("last pixel", desk.rendered(7, 5, 0), 255);
        due.is("beyond the width", desk.rendered(8, 5, 0), INVALID);
        due.is("beyond the height", desk.rendered(7, 6, 0), INVALID);
        for (int what = 0; what < 6; what++) {
            due.is("part " + what, desk.rendered(3, 3, what), what < 3 ? 255 : 0);
        }
        for (int plate = 0; plate <= 7; plate++) {
            due.is("plate " + plate, desk.ink(3, 3, plate), 0);
        }
        due.is("no history", desk.undo(), IMPOSSIBLE);
        due.is("first rect", desk.addRect(0), 1);
        due.is("initial box contains (0, 0)", desk.rendered(0, 0, 0), 0);
        due.is("initial ink's green", desk.rendered(0, 0, 1), 0);
        due.is("initial ink's blue", desk.rendered(0, 0, 2), 0);
        due.is("initial box is one wide", desk.rendered(1, 0, 0), 255);
        due.is("initial box is one high", desk.rendered(0, 1, 0), 255);
        due.is("initial size", desk.setSize(3, 3), 806);
    }

    private static void newObjectSettings() {
        SeparationDesk desk = new SeparationDesk();
        due.is("initial A", desk.set(0, 1), 50);
        due.is("initial S", desk.set(1, 1), 40);
        due.is("initial L", desk.set(2, 1), 700);
        for (int plate = 0; plate < 3; plate++) {
            due.is("initial knockout " + plate, desk.setKnockout(plate, 0), 1);
        }
        for (int plate = 0; plate < 7; plate++) {
            // a desk for each plate, since nothing is promised after 512 calls
            SeparationDesk fresh = new SeparationDesk();
            for (int input = 0; input < 256; input++) {
                due.is("initial curve", fresh.curve(plate, input), input);
            }
        }
    }

    private static void setSize() {
        SeparationDesk desk = new SeparationDesk();
        desk.setBox(11, 11, 1, 1);
        desk.addRect(0);
        due.is("setSize(1, 12)", desk.setSize(1, 12), 806);
        due.is("setSize(12, 1)", desk.setSize(12, 1), 112);
        due.is("last pixel of a wide page", desk.rendered(11, 0, 0), 255);
        due.is("below a wide page", desk.rendered(0, 1, 0), INVALID);
        due.is("setSize(12, 12)", desk.setSize(12, 12), 1201);
        due.is("nodes stay", desk.rendered(11, 11, 0), 0);
        int[] wrong = {LEAST, -1, 0, 13, MOST};
        for (int side : wrong) {
            due.is("width " + side, desk.setSize(side, 5), INVALID);
            due.is("height " + side, desk.setSize(5, side), INVALID);
        }
        due.is("errors change nothing", desk.setSize(2, 3), 1212);
    }

    private static void addGroup() {
        SeparationDesk desk = new SeparationDesk();
        due.is("least values", desk.addGroup(0, 0, -12, -12), 1);
        due.is("greatest values", desk.addGroup(0, 100, 12, 12), 2);
        int[][] wrong = {
            {-1, 0, 0}, {101, 0, 0}, {50, -13, 0}, {50, 13, 0}, {50, 0, -13}, {50, 0, 13},
            {LEAST, 0, 0}, {MOST, 0, 0}, {50, LEAST, 0}, {50, 0, MOST}};
        for (int[] w : wrong) {
            due.is("wrong group", desk.addGroup(0, w[0], w[1], w[2]), INVALID);
        }
        due.is("no such parent", desk.addGroup(3, 50, 0, 0), INVALID);
        due.is("parent -1", desk.addGroup(-1, 50, 0, 0), INVALID);
        due.is("parent 24", desk.addGroup(24, 50, 0, 0), INVALID);
        due.is("no group was added", desk.nodeCount(), 3);
        desk.addRect(0);
        due.is("below a rect", desk.addGroup(3, 50, 0, 0), IMPOSSIBLE);
        due.is("wrong offset below a rect", desk.addGroup(3, 50, 13, 0), INVALID);
        due.is("depth 2", desk.addGroup(2, 50, 0, 0), 4);
        due.is("depth 3", desk.addGroup(4, 50, 0, 0), 5);
        due.is("depth 4", desk.addGroup(5, 50, 0, 0), 6);
        due.is("depth 5", desk.addGroup(6, 50, 0, 0), IMPOSSIBLE);
        due.is("depth of the last", desk.nodeInfo(6, 2), 4);
    }

    private static void addRect() {
        SeparationDesk desk = new SeparationDesk();
        desk.setBox(-1, 2, 3, 2);
        desk.setInk(10, 20, 30);
        due.is("addRect", desk.addRect(0), 1);
        due.is("kind", desk.nodeInfo(1, 0), SeparationDesk.RECT);
        desk.setBox(7, 5, 1, 1);
        desk.setInk(1, 2, 3);
        due.is("red", desk.rendered(1, 3, 0), 10);
        due.is("green", desk.rendered(1, 3, 1), 20);
        due.is("blue", desk.rendered(1, 3, 2), 30);
        due.is("left edge", desk.rendered(0, 2, 0), 10);
        due.is("right of it", desk.rendered(2, 2, 0), 255);
        due.is("above it", desk.rendered(0, 1, 0), 255);
        due.is("below it", desk.rendered(0, 4, 0), 255);
        due.is("the next box", desk.rendered(7, 5, 0), 255);
        due.is("below a rect", desk.addRect(1), IMPOSSIBLE);
        due.is("no such parent", desk.addRect(2), INVALID);
        due.is("parent -1", desk.addRect(-1), INVALID);
        due.is("parent 24", desk.addRect(24), INVALID);
        due.is("least parent", desk.addRect(LEAST), INVALID);
        due.is("greatest parent", desk.addRect(MOST), INVALID);
    }

    private static void addSpot() {
        SeparationDesk desk = new SeparationDesk();
        desk.setBox(0, 0, 2, 2);
        due.is("least values", desk.addSpot(0, 0, 0), 1);
        due.is("greatest values", desk.addSpot(0, 2, 255), 2);
        due.is("kind", desk.nodeInfo(2, 0), SeparationDesk.SPOT);
        due.is("tint", desk.rendered(1, 1, 5), 255);
        due.is("box", desk.rendered(2, 1, 5), 0);
        due.is("plate -1", desk.addSpot(0, -1, 5), INVALID);
        due.is("plate 3", desk.addSpot(0, 3, 5), INVALID);
        due.is("tint -1", desk.addSpot(0, 1, -1), INVALID);
        due.is("tint 256", desk.addSpot(0, 1, 256), INVALID);
        due.is("no such parent", desk.addSpot(3, 1, 5), INVALID);
        due.is("below a spot", desk.addSpot(2, 1, 5), IMPOSSIBLE);
        due.is("wrong tint below a spot", desk.addSpot(2, 1, 256), INVALID);
        due.is("a group below a spot", desk.addGroup(1, 5, 0, 0), IMPOSSIBLE);
        due.is("a rect below a spot", desk.addRect(1), IMPOSSIBLE);
    }

    private static void addErrorsInOrder() {
        SeparationDesk desk = new SeparationDesk();
        for (int number = 1; number <= 23; number++) {
            due.is("number", desk.addRect(0), number);
        }
        due.is("all numbers are taken", desk.nodeCount(), 24);
        due.is("rect too many", desk.addRect(0), FULL);
        due.is("group too many", desk.addGroup(0, 1, 0, 0), FULL);
        due.is("spot too many", desk.addSpot(0, 1, 0), FULL);
        due.is("not possible comes before the limit", desk.addRect(23), IMPOSSIBLE);
        due.is("likewise a group", desk.addGroup(1, 1, 0, 0), IMPOSSIBLE);
        due.is("likewise a spot", desk.addSpot(1, 1, 0), IMPOSSIBLE);
        due.is("invalid comes before the limit", desk.addRect(24), INVALID);
        due.is("invalid opacity before not possible", desk.addGroup(1, 101, 0, 0), INVALID);
        due.is("invalid plate before not possible", desk.addSpot(1, 3, 0), INVALID);
        due.is("greatest node", desk.nodeInfo(23, 5), 22);
    }

    private static void lowestFreeNumber() {
        SeparationDesk desk = new SeparationDesk();
        for (int number = 1; number <= 5; number++) {
            desk.addRect(0);
        }
        desk.remove(4);
        desk.remove(2);
        due.is("lowest free number", desk.addRect(0), 2);
        due.is("it is the last child", desk.nodeInfo(2, 5), 3);
        due.is("next free number", desk.addSpot(0, 0, 0), 4);
        due.is("then the next", desk.addGroup(0, 0, 0, 0), 6);
    }

    private static void setBox() {
        SeparationDesk desk = new SeparationDesk();
        due.is("least box", desk.setBox(-12, -12, 1, 1), 1);
        due.is("greatest box", desk.setBox(12, 12, 12, 12), 144);
        due.is("w * h", desk.setBox(3, 4, 2, 5), 10);
        int[][] wrong = {
            {-13, 0, 1, 1}, {13, 0, 1, 1}, {0, -13, 1, 1}, {0, 13, 1, 1},
            {0, 0, 0, 1}, {0, 0, 13, 1}, {0, 0, 1, 0}, {0, 0, 1, 13},
            {LEAST, 0, 1, 1}, {0, MOST, 1, 1}, {0, 0, MOST, 1}, {0, 0, 1, LEAST}};
        for (int[] w : wrong) {
            due.is("wrong box", desk.setBox(w[0], w[1], w[2], w[3]), INVALID);
        }
        desk.addRect(0);
        due.is("a wrong box changes nothing", desk.rendered(3, 4, 0), 0);
        due.is("w", desk.rendered(4, 5, 0), 0);
        due.is("right of it", desk.rendered(5, 5, 0), 255);
        due.is("left of it", desk.rendered(2, 4, 0), 255);
    }

    private static void setInk() {
        SeparationDesk desk = new SeparationDesk();
        due.is("least ink", desk.setInk(0, 0, 0), 0);
        due.is("greatest ink", desk.setInk(255, 255, 255), 765);
        due.is("sum", desk.setInk(1, 20, 200), 221);
        int[] wrong = {LEAST, -1, 256, MOST};
        for (int part : wrong) {
            due.is("red " + part, desk.setInk(part, 5, 5), INVALID);
            due.is("green " + part, desk.setInk(5, part, 5), INVALID);
            due.is("blue " + part, desk.setInk(5, 5, part), INVALID);
        }
        desk.addRect(0);
        due.is("a wrong ink changes nothing", desk.rendered(0, 0, 0), 1);
        due.is("green", desk.rendered(0, 0, 1), 20);
        due.is("blue", desk.rendered(0, 0, 2), 200);
    }

    private static void boxAndInkAreNoChanges() {
        SeparationDesk desk = new SeparationDesk();
        desk.setBox(1, 1, 2, 2);
        desk.setInk(9, 8, 7);
        due.is("no change to undo", desk.undo(), IMPOSSIBLE);
        desk.addRect(0);
        desk.setBox(4, 4, 1, 1);
        desk.setInk(90, 80, 70);
        due.is("only the rect is undone", desk.undo(), 0);
        desk.addRect(0);
        due.is("box and ink stay", desk.rendered(4, 4, 0), 90);
        due.is("the old box is gone", desk.rendered(1, 1, 0), 255);
    }

    private static void remove() {
        SeparationDesk desk = new SeparationDesk();
        desk.addGroup(0, 100, 0, 0);
        desk.addRect(1);
        desk.addGroup(1, 100, 0, 0);
        desk.addSpot(3, 0, 9);
        desk.addRect(0);
        due.is("the root", desk.remove(0), IMPOSSIBLE);
        due.is("no such node", desk.remove(6), INVALID);
        due.is("-1", desk.remove(-1), INVALID);
        due.is("24", desk.remove(24), INVALID);
        due.is("a leaf", desk.remove(2), 1);
        due.is("it is gone", desk.remove(2), INVALID);
        due.is("place of the next child", desk.nodeInfo(3, 5), 0);
        due.is("a group with all below it", desk.remove(1), 3);
        due.is("the rest", desk.nodeCount(), 2);
        due.is("the last one stays", desk.nodeInfo(5, 5), 0);
        due.is("no node below", desk.nodeInfo(4, 0), INVALID);
        due.is("paint stays", desk.touchedBy(0, 0), 5);
    }

    private static void move() {
        SeparationDesk desk = new SeparationDesk();
        desk.addGroup(0, 100, 0, 0);
        desk.addRect(1);
        desk.addGroup(0, 100, 0, 0);
        desk.addRect(3);
        due.is("a group into a group", desk.move(1, 3), 2);
        due.is("its parent", desk.nodeInfo(1, 1), 3);
        due.is("its place is the last", desk.nodeInfo(1, 5), 1);
        due.is("depth of the node below it", desk.nodeInfo(2, 2), 3);
        due.is("all below the new parent", desk.nodeInfo(3, 4), 3);
        due.is("children of the new parent", desk.nodeInfo(3, 3), 2);
        due.is("place of the new parent", desk.nodeInfo(3, 5), 0);
        due.is("a rect to the root", desk.move(2, 0), 1);
        due.is("place at the root", desk.nodeInfo(2, 5), 1);
        due.is("children left", desk.nodeInfo(1, 3), 0);
    }

    private static void moveWithinAGroup() {
        SeparationDesk desk = new SeparationDesk();
        desk.addRect(0);
        desk.addRect(0);
        desk.addRect(0);
        due.is("latest touch before", desk.touchedBy(0, 0), 3);
        due.is("to the same parent", desk.move(1, 0), 1);
        due.is("it is the last child", desk.nodeInfo(1, 5), 2);
        due.is("the next one goes up", desk.nodeInfo(2, 5), 0);
        due.is("latest touch after", desk.touchedBy(0, 0), 1);
        due.is("the last one stays", desk.move(1, 0), 1);
        due.is("moving to the same place is a change", desk.undo(), 4);
    }

    private static void moveErrors() {
        SeparationDesk desk = new SeparationDesk();
        desk.addGroup(0, 100, 0, 0);
        desk.addGroup(1, 100, 0, 0);
        desk.addRect(2);
        desk.addGroup(0, 100, 0, 0);
        desk.addGroup(4, 100, 0, 0);
        due.is("no such node", desk.move(6, 0), INVALID);
        due.is("no such parent", desk.move(1, 6), INVALID);
        due.is("parent -1", desk.move(1, -1), INVALID);
        due.is("parent 24", desk.move(1, 24), INVALID);
        due.is("node -1", desk.move(-1, 0), INVALID);
        due.is("node 24", desk.move(24, 0), INVALID);
        due.is("the root to no node", desk.move(0, 6), INVALID);
        due.is("the root", desk.move(0, 1), IMPOSSIBLE);
        due.is("the root to itself", desk.move(0, 0), IMPOSSIBLE);
        due.is("into itself", desk.move(1, 1), IMPOSSIBLE);
        due.is("into a node below it", desk.move(1, 2), IMPOSSIBLE);
        due.is("into a rect", desk.move(4, 3), IMPOSSIBLE);
        due.is("a rect into itself", desk.move(3, 3), IMPOSSIBLE);
        due.is("too deep by what is below it", desk.move(1, 5), IMPOSSIBLE);
        due.is("just deep enough", desk.move(1, 4), 2);
        due.is("the deepest node", desk.nodeInfo(3, 2), 4);
        due.is("errors are no changes", desk.undo(), 4);
    }

    private static void moveCarriesDepthOpacityAndOffset() {
        SeparationDesk desk = new SeparationDesk();
        desk.addGroup(0, 50, 2, 1);
        desk.addGroup(0, 50, 1, -1);
        desk.addRect(2);
        due.is("no pixel above the page", desk.touchedBy(1, 0), SeparationDesk.NOT_FOUND);
        desk.move(2, 1);
        due.is("offsets add up", desk.rendered(3, 0, 0), 191);
        desk.move(3, 1);
        due.is("offset of the upper group", desk.rendered(2, 1, 0), 127);
        desk.move(3, 0);
        due.is("no offset at the root", desk.rendered(0, 0, 0), 0);
    }

    private static void nodeInfo() {
        SeparationDesk desk = new SeparationDesk();
        desk.addGroup(0, 100, 0, 0);
        desk.addRect(1);
        desk.addGroup(1, 100, 0, 0);
        desk.addSpot(3, 1, 1);
        desk.addRect(0);
        int[][] infos = {
            {0, -1, 0, 2, 5, 0}, {0, 0, 1, 2, 3, 0}, {1, 1, 2, 0, 0, 0},
            {0, 1, 2, 1, 1, 1}, {2, 3, 3, 0, 0, 0}, {1, 0, 1, 0, 0, 1}};
        for (int node = 0; node < infos.length; node++) {
            for (int what = 0; what < 6; what++) {
                due.is("nodeInfo(" + node + ", " + what + ")", desk.nodeInfo(node, what), infos[node][what]);
            }
        }
        due.is("what -1", desk.nodeInfo(0, -1), INVALID);
        due.is("what 6", desk.nodeInfo(0, 6), INVALID);
        due.is("no such node", desk.nodeInfo(6, 0), INVALID);
        due.is("node -1", desk.nodeInfo(-1, 1), INVALID);
        due.is("node 24", desk.nodeInfo(24, 0), INVALID);
    }

    private static void nodeCount() {
        SeparationDesk desk = new SeparationDesk();
        desk.addGroup(0, 100, 0, 0);
        desk.addRect(1);
        due.is("with the root", desk.nodeCount(), 3);
        desk.remove(1);
        due.is("after remove", desk.nodeCount(), 1);
        desk.undo();
        due.is("after undo", desk.nodeCount(), 3);
    }
}
