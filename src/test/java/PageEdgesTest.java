/** The section "Page", sentence by sentence: each test bears the sentence whose edges it tries. */
public final class PageEdgesTest {
    private static final int INVALID = SeparationDesk.INVALID_ARGUMENT;
    private static final int IMPOSSIBLE = SeparationDesk.NOT_POSSIBLE;
    private static final int FULL = SeparationDesk.LIMIT_REACHED;
    private static final int NOT_FOUND = SeparationDesk.NOT_FOUND;
    private static final Due due = new Due();

    public static void main(String[] args) {
        everySize();
        initialSize();
        rootAlwaysExists();
        rootIsAGroupOfFullOpacity();
        noNumberIsFree();
        numberIsFreeAfterARemove();
        numbersOfARemovedGroup();
        numberIsFreeAfterAnUndo();
        refusedNodesTakeNoNumber();
        onlyGroupsAreParents();
        childrenStandInTheOrderOfAdding();
        opacityAtItsEnds();
        offsetAtItsEnds();
        boxAtItsEnds();
        colorAtItsEnds();
        spotAtItsEnds();
        noDepthAboveFour();
        moveBringsNothingBelowFour();
        deepestNodeOfAMoveIsNotTheLast();
        moveUpFromDepthFour();
        moveIntoItself();
        effectiveOpacityIsRoundedAtEachGroup();
        effectiveOffsetIsTheSumOfAllAbove();
        everyPixelOfARectangle();
        everyPixelOfAShiftedSpot();
        rectanglesPartlyOffThePage();
        rectanglesWhollyOffThePage();
        rectangleOffThePageIsStillThere();
        due.end();
    }

    /** "The page has a width W and a height H (1 to 12 each ..); its pixels have places (x, y) .." */
    private static void everySize() {
        for (int width = 1; width <= 12; width++) {
            for (int height = 1; height <= 12; height++) {
                String size = width + " times " + height;
                SeparationDesk desk = new SeparationDesk();
                due.is(size, desk.setSize(width, height), 806);
                due.is(size + ", first pixel", desk.rendered(0, 0, 0), 255);
                due.is(size + ", last pixel", desk.rendered(width - 1, height - 1, 0), 255);
                due.is(size + ", right of it", desk.rendered(width, height - 1, 0), INVALID);
                due.is(size + ", below it", desk.rendered(width - 1, height, 0), INVALID);
                due.is(size + ", all pixels", desk.inkAt(0, 8), width * height);
                due.is(size + ", the previous one", desk.setSize(1, 1), 100 * width + height);
            }
        }
    }

    /** "(.. initially 8 and 6)" */
    private static void initialSize() {
        SeparationDesk desk = new SeparationDesk();
        due.is("all pixels", desk.inkAt(0, 8), 48);
        due.is("last pixel", desk.ink(7, 5, 7), 0);
        due.is("left of the first", desk.ink(-1, 0, 7), INVALID);
        due.is("above the first", desk.ink(0, -1, 7), INVALID);
        due.is("right of the last", desk.ink(8, 5, 7), INVALID);
        due.is("below the last", desk.ink(7, 6, 7), INVALID);
    }

    /** "Node 0 is the root, .. and always exists." */
    private static void rootAlwaysExists() {
        SeparationDesk desk = new SeparationDesk();
        due.is("a new page's root", desk.nodeInfo(0, 0), SeparationDesk.GROUP);
        due.is("remove it from an empty page", desk.remove(0), IMPOSSIBLE);
        desk.addGroup(0, 100, 0, 0);
        due.is("remove it with a child", desk.remove(0), IMPOSSIBLE);
        due.is("move it below its child", desk.move(0, 1), IMPOSSIBLE);
        due.is("the only child", desk.remove(1), 1);
        due.is("the root stays", desk.nodeInfo(0, 0), SeparationDesk.GROUP);
        due.is("alone", desk.nodeCount(), 1);
        desk.undo();
        desk.undo();
        due.is("the root after all is undone", desk.nodeInfo(0, 3), 0);
    }

    /** "Node 0 is the root, which is a group with opacity 100 and offset (0, 0)" */
    private static void rootIsAGroupOfFullOpacity() {
        SeparationDesk desk = new SeparationDesk();
        desk.addRect(0);
        due.is("opacity 100", desk.rendered(0, 0, 0), 0);
        due.is("x offset 0", desk.touchedBy(1, 0), NOT_FOUND);
        due.is("y offset 0", desk.touchedBy(0, 1), NOT_FOUND);
        due.is("no parent", desk.nodeInfo(0, 1), -1);
        due.is("depth 0", desk.nodeInfo(0, 2), 0);
        due.is("place 0", desk.nodeInfo(0, 5), 0);
    }

    private static SeparationDesk deskOf23Rects() {
        SeparationDesk desk = new SeparationDesk();
        for (int number = 1; number <= 23; number++) {
            due.is("rect", desk.addRect(0), number);
        }
        return desk;
    }

    /** "New nodes get the lowest number from 1 to 23 that is free.": none is. */
    private static void noNumberIsFree() {
        SeparationDesk desk = deskOf23Rects();
        due.is("a rect", desk.addRect(0), FULL);
        due.is("a spot", desk.addSpot(0, 0, 0), FULL);
        due.is("a group", desk.addGroup(0, 0, 0, 0), FULL);
        due.is("all nodes", desk.nodeCount(), 24);
        due.is("no node 24", desk.nodeInfo(24, 0), INVALID);
        due.is("all below the root", desk.nodeInfo(0, 4), 23);
    }

    /** "New nodes get the lowest number ..": one is free again after a remove. */
    private static void numberIsFreeAfterARemove() {
        int[] numbers = {1, 12, 23};
        for (int number : numbers) {
            SeparationDesk desk = deskOf23Rects();
            due.is("remove " + number, desk.remove(number), 1);
            due.is("it is free", desk.addSpot(0, 0, 0), number);
            due.is("it is the last child", desk.nodeInfo(number, 5), 22);
            due.is("no other is free", desk.addRect(0), FULL);
        }
        SeparationDesk desk = deskOf23Rects();
        desk.remove(9);
        desk.remove(20);
        desk.remove(4);
        due.is("the lowest of three", desk.addGroup(0, 0, 0, 0), 4);
        due.is("then the next", desk.addRect(4), 9);
        due.is("then the last", desk.addSpot(4, 0, 0), 20);
        due.is("then none", desk.addRect(4), FULL);
    }

    /** "New nodes get the lowest number ..": those of all nodes below a removed one are free as well. */
    private static void numbersOfARemovedGroup() {
        SeparationDesk desk = new SeparationDesk();
        desk.addRect(0);
        desk.addGroup(0, 100, 0, 0);
        desk.addRect(0);
        desk.addGroup(2, 100, 0, 0);
        desk.addRect(0);
        desk.addRect(4);
        due.is("2, 4 and 6", desk.remove(2), 3);
        int[] numbers = {2, 4, 6, 7};
        for (int number : numbers) {
            due.is("free number", desk.addRect(0), number);
        }
    }

    /** "New nodes get the lowest number ..": one is free again after an undo, and none after one that fills the page. */
    private static void numberIsFreeAfterAnUndo() {
        SeparationDesk desk = deskOf23Rects();
        desk.undo();
        due.is("the last number is free", desk.nodeInfo(23, 0), INVALID);
        due.is("and taken again", desk.addGroup(0, 0, 0, 0), 23);
        due.is("none is free", desk.addRect(0), FULL);
        desk.remove(5);
        desk.undo();
        due.is("none is free after an undone remove", desk.addRect(0), FULL);
        due.is("the number is where it was", desk.nodeInfo(5, 5), 4);
        desk.remove(5);
        desk.addGroup(0, 0, 0, 0);
        desk.undo();
        due.is("free after an undone add", desk.addSpot(0, 0, 0), 5);
        due.is("a spot has it now", desk.nodeInfo(5, 0), SeparationDesk.SPOT);
    }

    /** A call that returns an error takes no number. */
    private static void refusedNodesTakeNoNumber() {
        SeparationDesk desk = new SeparationDesk();
        desk.addRect(0);
        desk.addGroup(0, 101, 0, 0);
        desk.addGroup(1, 0, 0, 0);
        desk.addRect(1);
        desk.addRect(9);
        desk.addSpot(0, 3, 0);
        desk.addSpot(1, 0, 0);
        due.is("the next number", desk.addRect(0), 2);
    }

    /** "A node has a parent, which is a group" */
    private static void onlyGroupsAreParents() {
        SeparationDesk desk = new SeparationDesk();
        desk.addRect(0);
        desk.addSpot(0, 0, 0);
        desk.addGroup(0, 0, 0, 0);
        for (int leaf = 1; leaf <= 2; leaf++) {
            due.is("a group below leaf " + leaf, desk.addGroup(leaf, 0, 0, 0), IMPOSSIBLE);
            due.is("a rect below leaf " + leaf, desk.addRect(leaf), IMPOSSIBLE);
            due.is("a spot below leaf " + leaf, desk.addSpot(leaf, 0, 0), IMPOSSIBLE);
            due.is("a group moved below leaf " + leaf, desk.move(3, leaf), IMPOSSIBLE);
            due.is("a leaf moved below leaf " + leaf, desk.move(3 - leaf, leaf), IMPOSSIBLE);
        }
        due.is("a group of opacity 0 is a parent", desk.addRect(3), 4);
    }

    /** "the children of a group are in the order in which they were added to it" */
    private static void childrenStandInTheOrderOfAdding() {
        SeparationDesk desk = new SeparationDesk();
        desk.addGroup(0, 100, 0, 0);
        desk.addRect(0);
        desk.addGroup(1, 100, 0, 0);
        desk.addRect(1);
        desk.addRect(3);
        int[] places = {0, 0, 1, 0, 1, 0};
        for (int node = 0; node < places.length; node++) {
            due.is("place of " + node, desk.nodeInfo(node, 5), places[node]);
        }
        due.is("the group's later children come before the rect", desk.touchedBy(0, 0), 2);
        desk.remove(2);
        due.is("the children of 1 in their order", desk.touchedBy(0, 0), 4);
        due.is("a low number used again", desk.addRect(1), 2);
        due.is("stands last all the same", desk.nodeInfo(2, 5), 2);
        due.is("and is visited last", desk.touchedBy(0, 0), 2);
        desk.move(3, 1);
        due.is("a moved one was added last", desk.nodeInfo(3, 5), 2);
        due.is("those behind it go up", desk.nodeInfo(4, 5), 0);
        due.is("and what is below it comes last", desk.touchedBy(0, 0), 5);
    }

    /** "an opacity (0 to 100)" */
    private static void opacityAtItsEnds() {
        int[] opacities = {0, 1, 99, 100};
        // black: 255 * 1 / 100 rounds to 3 downwards, 255 * 99 / 100 to 253
        int[] reds = {255, 252, 2, 0};
        for (int i = 0; i < opacities.length; i++) {
            SeparationDesk desk = new SeparationDesk();
            desk.addGroup(0, opacities[i], 0, 0);
            desk.addRect(1);
            due.is("opacity " + opacities[i], desk.rendered(0, 0, 0), reds[i]);
        }
        SeparationDesk desk = new SeparationDesk();
        due.is("-1", desk.addGroup(0, -1, 0, 0), INVALID);
        due.is("101", desk.addGroup(0, 101, 0, 0), INVALID);
    }

    /** "an offset (-12 to 12 for x and for y)" */
    private static void offsetAtItsEnds() {
        SeparationDesk desk = new SeparationDesk();
        desk.setSize(12, 12);
        desk.addGroup(0, 100, -12, -12);
        desk.addGroup(0, 100, 12, 12);
        desk.setBox(12, 12, 1, 1);
        desk.addRect(1);
        due.is("-12 from 12", desk.touchedBy(0, 0), 3);
        due.is("x one further", desk.touchedBy(1, 0), NOT_FOUND);
        due.is("y one further", desk.touchedBy(0, 1), NOT_FOUND);
        desk.setBox(-1, -1, 1, 1);
        desk.addRect(2);
        due.is("12 from -1", desk.touchedBy(11, 11), 4);
        due.is("x one before", desk.touchedBy(10, 11), NOT_FOUND);
        due.is("y one before", desk.touchedBy(11, 10), NOT_FOUND);
        int[] wrong = {-13, 13};
        for (int offset : wrong) {
            due.is("dx " + offset, desk.addGroup(0, 100, offset, 0), INVALID);
            due.is("dy " + offset, desk.addGroup(0, 100, 0, offset), INVALID);
        }
    }

    /** "a rectangle x, y, w, h (x and y from -12 to 12, w and h from 1 to 12)" */
    private static void boxAtItsEnds() {
        SeparationDesk desk = new SeparationDesk();
        desk.setSize(12, 12);
        due.is("the whole page", desk.setBox(0, 0, 12, 12), 144);
        desk.addRect(0);
        due.is("first pixel", desk.touchedBy(0, 0), 1);
        due.is("last pixel", desk.touchedBy(11, 11), 1);
        due.is("one ink", desk.inkCount(), 1);
        due.is("one pixel", desk.setBox(11, 11, 1, 1), 1);
        desk.addSpot(0, 0, 1);
        due.is("that pixel", desk.touchedBy(11, 11), 2);
        due.is("left of it", desk.touchedBy(10, 11), 1);
        due.is("above it", desk.touchedBy(11, 10), 1);
        desk.addGroup(0, 100, 12, 12);
        due.is("least x and y", desk.setBox(-12, -12, 1, 12), 12);
        desk.addRect(3);
        due.is("its first pixel", desk.touchedBy(0, 0), 4);
        due.is("its last pixel", desk.touchedBy(0, 11), 4);
        due.is("right of it", desk.touchedBy(1, 0), 1);
        int[][] wrong = {
            {-13, 0, 1, 1}, {13, 0, 1, 1}, {0, -13, 1, 1}, {0, 13, 1, 1},
            {0, 0, 0, 1}, {0, 0, 13, 1}, {0, 0, 1, 0}, {0, 0, 1, 13}};
        for (int[] w : wrong) {
            due.is("wrong box", desk.setBox(w[0], w[1], w[2], w[3]), INVALID);
        }
        desk.addRect(0);
        due.is("a wrong box leaves the last one", desk.touchedBy(0, 0), 4);
    }

    /** "a color with three parts red, green, blue (0 to 255 each)" */
    private static void colorAtItsEnds() {
        int[][] colors = {{0, 0, 0}, {255, 255, 255}, {255, 0, 0}, {0, 255, 0}, {0, 0, 255}};
        for (int[] c : colors) {
            SeparationDesk desk = new SeparationDesk();
            due.is("sum", desk.setInk(c[0], c[1], c[2]), c[0] + c[1] + c[2]);
            due.is("red -1", desk.setInk(-1, 7, 7), INVALID);
            due.is("green 256", desk.setInk(7, 256, 7), INVALID);
            due.is("blue 256", desk.setInk(7, 7, 256), INVALID);
            desk.addRect(0);
            for (int part = 0; part < 3; part++) {
                due.is("part " + part, desk.rendered(0, 0, part), c[part]);
            }
        }
    }

    /** "a spot plate (0 to 2), and a tint (0 to 255)" */
    private static void spotAtItsEnds() {
        for (int plate = 0; plate < 3; plate++) {
            SeparationDesk desk = new SeparationDesk();
            due.is("greatest tint", desk.addSpot(0, plate, 255), 1);
            for (int other = 0; other < 3; other++) {
                due.is("its plate alone", desk.rendered(0, 0, 3 + other), other == plate ? 255 : 0);
            }
            due.is("least tint", desk.addSpot(0, plate, 0), 2);
            due.is("brings its plate back", desk.rendered(0, 0, 3 + plate), 0);
            due.is("tint -1", desk.addSpot(0, plate, -1), INVALID);
            due.is("tint 256", desk.addSpot(0, plate, 256), INVALID);
        }
        SeparationDesk desk = new SeparationDesk();
        due.is("plate -1", desk.addSpot(0, -1, 0), INVALID);
        due.is("plate 3", desk.addSpot(0, 3, 0), INVALID);
    }

    /** Groups 1 to 4, each below the one before. */
    private static SeparationDesk deskOfFourDepths() {
        SeparationDesk desk = new SeparationDesk();
        for (int parent = 0; parent < 4; parent++) {
            due.is("group", desk.addGroup(parent, 100, 0, 0), parent + 1);
        }
        return desk;
    }

    /** "The depth of the root is 0, and that of a node is 1 more than that of its parent; no depth is greater than 4." */
    private static void noDepthAboveFour() {
        SeparationDesk desk = deskOfFourDepths();
        for (int node = 0; node <= 4; node++) {
            due.is("depth of " + node, desk.nodeInfo(node, 2), node);
        }
        due.is("a group at depth 5", desk.addGroup(4, 100, 0, 0), IMPOSSIBLE);
        due.is("a rect at depth 5", desk.addRect(4), IMPOSSIBLE);
        due.is("a spot at depth 5", desk.addSpot(4, 0, 0), IMPOSSIBLE);
        due.is("a rect at depth 4", desk.addRect(3), 5);
        due.is("a spot at depth 4", desk.addSpot(3, 0, 0), 6);
        due.is("a group at depth 4", desk.addGroup(3, 0, 0, 0), 7);
        due.is("its depth", desk.nodeInfo(7, 2), 4);
        due.is("a rect moved to depth 5", desk.move(5, 7), IMPOSSIBLE);
        due.is("a rect at depth 1 moved to depth 5", moveNewRect(desk, 4), IMPOSSIBLE);
        due.is("a rect at depth 1 moved to depth 4", moveNewRect(desk, 3), 4);
    }

    private static int moveNewRect(SeparationDesk desk, int parent) {
        return desk.move(desk.addRect(0), parent);
    }

    /** "NOT_POSSIBLE .. if .. some depth would be greater than 4": every height below every depth. */
    private static void moveBringsNothingBelowFour() {
        for (int depth = 0; depth <= 4; depth++) {
            for (int height = 0; height <= 3; height++) {
                for (int leafKind = 0; leafKind < 3; leafKind++) {
                    tryHeightBelowDepth(height, depth, leafKind);
                }
            }
        }
    }

    private static void tryHeightBelowDepth(int height, int depth, int leafKind) {
        SeparationDesk desk = deskOfFourDepths();
        int parent = 0;
        for (int i = 0; i < height; i++) {
            parent = desk.addGroup(parent, 100, 0, 0);
        }
        int leaf = addLeaf(desk, parent, leafKind);
        String move = "height " + height + " to depth " + (depth + 1);
        boolean fits = depth + 1 + height <= 4;
        due.is(move, desk.move(5, depth), fits ? depth + 1 : IMPOSSIBLE);
        due.is(move + ", its depth", desk.nodeInfo(5, 2), fits ? depth + 1 : 1);
        due.is(move + ", depth of the leaf", desk.nodeInfo(leaf, 2), height + (fits ? depth + 1 : 1));
        due.is(move + ", its parent", desk.nodeInfo(5, 1), fits ? depth : 0);
    }

    private static int addLeaf(SeparationDesk desk, int parent, int kind) {
        if (kind == SeparationDesk.GROUP) {
            return desk.addGroup(parent, 100, 0, 0);
        }
        return kind == SeparationDesk.RECT ? desk.addRect(parent) : desk.addSpot(parent, 0, 0);
    }

    /** "some depth would be greater than 4": that of a node in the midst of the moved ones. */
    private static void deepestNodeOfAMoveIsNotTheLast() {
        SeparationDesk desk = new SeparationDesk();
        desk.addGroup(0, 100, 0, 0);
        desk.addRect(1);
        desk.addGroup(1, 100, 0, 0);
        desk.addRect(3);
        desk.addRect(1);
        desk.addGroup(0, 100, 0, 0);
        desk.addGroup(6, 100, 0, 0);
        due.is("4 would be at depth 5", desk.move(1, 7), IMPOSSIBLE);
        due.is("4 comes to depth 4", desk.move(1, 6), 2);
        due.is("depth of 4", desk.nodeInfo(4, 2), 4);
        due.is("depth of 5", desk.nodeInfo(5, 2), 3);
    }

    /** "no depth is greater than 4": what stands at depth 4 may go up and down again. */
    private static void moveUpFromDepthFour() {
        SeparationDesk desk = deskOfFourDepths();
        due.is("4 to depth 4 once more", desk.move(4, 3), 4);
        due.is("4 to the root", desk.move(4, 0), 1);
        due.is("now it may have children", desk.addRect(4), 5);
        due.is("so that it can't go back", desk.move(4, 3), IMPOSSIBLE);
        due.is("but one less deep", desk.move(4, 2), 3);
        due.is("with its child", desk.nodeInfo(5, 2), 4);
    }

    /** "NOT_POSSIBLE .. if parent is no group or is the node or below it" */
    private static void moveIntoItself() {
        SeparationDesk desk = deskOfFourDepths();
        for (int node = 1; node <= 4; node++) {
            for (int parent = node; parent <= 4; parent++) {
                due.is(node + " below " + parent, desk.move(node, parent), IMPOSSIBLE);
            }
        }
        due.is("to the parent that it has", desk.move(2, 1), 2);
        due.is("all below it came along", desk.nodeInfo(1, 4), 3);
    }

    /** "The effective opacity .. that of its parent times its opacity, divided by 100" */
    private static void effectiveOpacityIsRoundedAtEachGroup() {
        // 50 * 75 / 100 = 37, 37 * 54 / 100 = 19, though 50 * 75 * 54 is 20.25 percent of percent
        int[][] cases = {
            {100, 100, 100, 100}, {50, 75, 54, 19}, {99, 99, 99, 97}, {1, 99, 100, 0}, {99, 1, 100, 0},
            {10, 10, 100, 1}, {10, 9, 100, 0}, {0, 100, 100, 0}, {100, 100, 0, 0}, {100, 0, 100, 0}};
        for (int[] c : cases) {
            SeparationDesk desk = new SeparationDesk();
            for (int i = 0; i < 3; i++) {
                desk.addGroup(i, c[i], 0, 0);
            }
            desk.addSpot(3, 1, 100);
            String groups = c[0] + ", " + c[1] + ", " + c[2];
            due.is(groups, desk.rendered(0, 0, 4), c[3]);
            due.is(groups + ", touch", desk.touchedBy(0, 0), c[3] > 0 ? 4 : NOT_FOUND);
        }
    }

    /** "the effective offset is the sum of its own and those of all groups above it" */
    private static void effectiveOffsetIsTheSumOfAllAbove() {
        SeparationDesk desk = new SeparationDesk();
        desk.setSize(12, 12);
        desk.addGroup(0, 100, 12, -12);
        desk.addGroup(1, 100, 12, -12);
        desk.addGroup(2, 100, -12, 12);
        desk.setBox(-1, 12, 1, 1);
        desk.addRect(3);
        due.is("12 + 12 - 12 and -12 - 12 + 12", desk.touchedBy(11, 0), 4);
        due.is("no other pixel", desk.inkAt(1, 8), 1);
        desk.move(4, 2);
        due.is("24 and -24: off the page", desk.inkCount(), 1);
        desk.move(4, 1);
        due.is("12 and -12", desk.touchedBy(11, 0), 4);
        desk.move(4, 0);
        due.is("0 and 0: off the page", desk.inkCount(), 1);
        desk.addGroup(0, 100, 3, -4);
        desk.move(4, 5);
        due.is("a group beside it does not count", desk.touchedBy(2, 8), 4);
        desk.move(3, 0);
        desk.move(4, 3);
        due.is("-12 and 12", desk.inkCount(), 1);
    }

    private static void everyPixel(String name, SeparationDesk desk, int node, int[] box) {
        for (int x = 0; x < 8; x++) {
            for (int y = 0; y < 6; y++) {
                boolean inside = x >= box[0] && x < box[0] + box[2] && y >= box[1] && y < box[1] + box[3];
                due.is(name + ", pixel " + x + ", " + y, desk.touchedBy(x, y), inside ? node : NOT_FOUND);
                due.is(name + ", ink " + x + ", " + y, Math.min(1, desk.ink(x, y, 7)), inside ? 1 : 0);
            }
        }
    }

    /** "A rectangle contains a pixel if the pixel .. lies from x to x + w - 1 and from y to y + h - 1." */
    private static void everyPixelOfARectangle() {
        int[][] boxes = {{2, 1, 3, 2}, {0, 0, 1, 1}, {7, 5, 1, 1}, {0, 5, 8, 1}, {7, 0, 1, 6}, {0, 0, 8, 6}};
        for (int[] b : boxes) {
            SeparationDesk desk = new SeparationDesk();
            desk.setBox(b[0], b[1], b[2], b[3]);
            desk.addRect(0);
            everyPixel("rect", desk, 1, b);
        }
    }

    /** "the pixel, minus the effective offset of the parent of its node": the parent's, not a lower or an upper one's. */
    private static void everyPixelOfAShiftedSpot() {
        SeparationDesk desk = new SeparationDesk();
        desk.addGroup(0, 100, 2, -1);
        desk.addGroup(1, 100, 1, 3);
        desk.addGroup(2, 100, 4, 4);
        desk.setBox(-1, 0, 3, 2);
        desk.addSpot(2, 2, 50);
        everyPixel("spot", desk, 4, new int[] {2, 2, 3, 2});
    }

    /** "a rectangle": one that lies partly off the page. */
    private static void rectanglesPartlyOffThePage() {
        int[][] boxes = {
            {-1, -1, 2, 2}, {7, 5, 12, 12}, {-11, 0, 12, 1}, {0, -11, 1, 12}, {7, -1, 2, 2}, {-1, 5, 2, 2},
            {-2, -2, 12, 12}, {-2, 2, 12, 1}, {3, -3, 2, 12}, {-12, -12, 12, 12}};
        for (int[] b : boxes) {
            SeparationDesk desk = new SeparationDesk();
            desk.setBox(b[0], b[1], b[2], b[3]);
            desk.addRect(0);
            everyPixel("partly off", desk, 1, b);
        }
    }

    /** "a rectangle": one that lies wholly off the page touches nothing. */
    private static void rectanglesWhollyOffThePage() {
        int[][] boxes = {
            {-12, 0, 12, 12}, {0, -12, 12, 12}, {8, 0, 12, 12}, {0, 6, 12, 12}, {12, 12, 12, 12},
            {-12, -12, 1, 1}, {-1, 0, 1, 12}, {0, -1, 12, 1}};
        for (int[] b : boxes) {
            SeparationDesk desk = new SeparationDesk();
            desk.setBox(b[0], b[1], b[2], b[3]);
            due.is("it is a node", desk.addRect(0), 1);
            everyPixel("wholly off", desk, 1, b);
            due.is("no ink", desk.coverage(7), 0);
        }
    }

    /** "Sets the size of the page. The nodes stay.": what lies off a small page shows on a greater one. */
    private static void rectangleOffThePageIsStillThere() {
        SeparationDesk desk = new SeparationDesk();
        desk.setBox(8, 6, 1, 1);
        desk.addRect(0);
        due.is("off the page", desk.inkCount(), 1);
        desk.setSize(9, 6);
        due.is("still below it", desk.inkCount(), 1);
        desk.setSize(9, 7);
        due.is("on a greater page", desk.touchedBy(8, 6), 1);
        desk.setSize(8, 7);
        due.is("off again", desk.coverage(7), 0);
        due.is("the node stays", desk.nodeInfo(1, 0), SeparationDesk.RECT);
        desk.setSize(12, 12);
        due.is("at its place", desk.touchedBy(8, 6), 1);
    }
}
