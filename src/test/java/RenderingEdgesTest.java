/** The section "Rendering", sentence by sentence, and "division rounded down, also for negative a". */
public final class RenderingEdgesTest {
    private static final int NOT_FOUND = SeparationDesk.NOT_FOUND;
    private static final Due due = new Due();

    // value before, goal, opacity, value after; a value that goes down is rounded away from the one before
    private static final int[][] MOVES = {
        {255, 0, 0, 255}, {0, 255, 0, 0}, {255, 0, 100, 0}, {0, 255, 100, 255}, {100, 100, 50, 100},
        {255, 254, 0, 255}, {255, 254, 1, 254}, {255, 254, 50, 254}, {255, 254, 99, 254}, {255, 254, 100, 254},
        {254, 255, 1, 254}, {254, 255, 50, 254}, {254, 255, 99, 254}, {254, 255, 100, 255},
        {255, 0, 1, 252}, {255, 0, 99, 2}, {0, 255, 1, 2}, {0, 255, 99, 252}, {1, 0, 1, 0}, {0, 1, 99, 0},
        {200, 100, 33, 167}, {100, 200, 33, 133}, {255, 0, 20, 204}, {0, 255, 20, 51},
        {107, 100, 33, 104}, {100, 107, 33, 102}, {3, 0, 34, 1}, {0, 3, 34, 1}};

    public static void main(String[] args) {
        emptyPixel();
        colorsMove();
        tintsMove();
        rectMovesTintsTowardsZero();
        spotMovesColorsTowardsWhite();
        spotMovesOtherTintsTowardsZero();
        noKnockoutMovesItsTintAlone();
        eachPlateKnocksOutOrNot();
        fullOpacity();
        opacityZeroIsNoTouch();
        latestTouchOfOverlappingNodes();
        nodesAreVisitedGroupByGroup();
        onlyContainedPixelsMove();
        due.end();
    }

    private static void parts(SeparationDesk desk, String name, int... want) {
        for (int what = 0; what < want.length; what++) {
            due.is(name + ", part " + what, desk.rendered(0, 0, what), want[what]);
        }
    }

    /** "A pixel has a red, a green and a blue part, initially 255, and a tint .., initially 0." */
    private static void emptyPixel() {
        SeparationDesk desk = new SeparationDesk();
        parts(desk, "an empty page", 255, 255, 255, 0, 0, 0);
        desk.addGroup(0, 100, 0, 0);
        parts(desk, "a group alone", 255, 255, 255, 0, 0, 0);
    }

    /** A desk with node 1, a group of this opacity. */
    private static SeparationDesk deskWithGroup(int opacity) {
        SeparationDesk desk = new SeparationDesk();
        desk.addGroup(0, opacity, 0, 0);
        return desk;
    }

    /** "a value v "moves towards" g: it becomes v + (g - v) * e / 100": each part of a color. */
    private static void colorsMove() {
        for (int[] m : MOVES) {
            for (int part = 0; part < 3; part++) {
                SeparationDesk desk = deskWithGroup(m[2]);
                setPart(desk, part, m[0]);
                desk.addRect(0);
                setPart(desk, part, m[1]);
                desk.addRect(1);
                // so that the group comes behind the first rect
                desk.move(1, 0);
                due.is("part " + part + " " + name(m), desk.rendered(0, 0, part), m[3]);
                due.is("another part " + name(m), desk.rendered(0, 0, (part + 1) % 3), 80);
            }
        }
    }

    private static void setPart(SeparationDesk desk, int part, int value) {
        desk.setInk(part == 0 ? value : 80, part == 1 ? value : 80, part == 2 ? value : 80);
    }

    private static String name(int[] move) {
        return "from " + move[0] + " towards " + move[1] + " by " + move[2];
    }

    /** "spot: the tint of its plate moves towards its tint", whether it knocks out or not. */
    private static void tintsMove() {
        for (int[] m : MOVES) {
            for (int plate = 0; plate < 3; plate++) {
                SeparationDesk desk = deskWithGroup(m[2]);
                desk.addSpot(0, plate, m[0]);
                desk.addSpot(1, plate, m[1]);
                desk.move(1, 0);
                due.is("plate " + plate + " " + name(m), desk.rendered(0, 0, 3 + plate), m[3]);
                desk.setKnockout(plate, 0);
                due.is("no knockout, plate " + plate + " " + name(m), desk.rendered(0, 0, 3 + plate), m[3]);
            }
        }
    }

    /** "rect: .. all three tints towards 0", whether the plates knock out or not. */
    private static void rectMovesTintsTowardsZero() {
        for (int[] m : MOVES) {
            if (m[1] != 0) {
                continue;
            }
            SeparationDesk desk = deskWithGroup(m[2]);
            for (int plate = 0; plate < 3; plate++) {
                desk.setKnockout(plate, 0);
                desk.addSpot(0, plate, m[0]);
            }
            desk.setInk(255, 255, 255);
            desk.addRect(1);
            desk.move(1, 0);
            parts(desk, "no knockout, " + name(m), 255, 255, 255, m[3], m[3], m[3]);
            desk.setKnockout(2, 1);
            parts(desk, "plate 2 knocks out, " + name(m), 255, 255, 255, 0, 0, m[3]);
        }
    }

    /** "If the plate knocks out .., red, green and blue move towards 255" */
    private static void spotMovesColorsTowardsWhite() {
        for (int[] m : MOVES) {
            if (m[1] != 255) {
                continue;
            }
            for (int plate = 0; plate < 3; plate++) {
                SeparationDesk desk = deskWithGroup(m[2]);
                desk.setInk(m[0], m[0], m[0]);
                desk.addRect(0);
                desk.addSpot(1, plate, 0);
                desk.move(1, 0);
                parts(desk, "plate " + plate + " " + name(m), m[3], m[3], m[3], 0, 0, 0);
                desk.setKnockout(plate, 0);
                parts(desk, "no knockout " + plate + " " + name(m), m[0], m[0], m[0], 0, 0, 0);
            }
        }
    }

    /** "If the plate knocks out .., the two other tints towards 0" */
    private static void spotMovesOtherTintsTowardsZero() {
        for (int[] m : MOVES) {
            if (m[1] != 0) {
                continue;
            }
            for (int plate = 0; plate < 3; plate++) {
                SeparationDesk desk = deskWithGroup(m[2]);
                for (int other = 0; other < 3; other++) {
                    desk.setKnockout(other, 0);
                    desk.addSpot(0, other, m[0]);
                }
                desk.addSpot(1, plate, m[0]);
                desk.move(1, 0);
                parts(desk, "no knockout", 255, 255, 255, m[0], m[0], m[0]);
                desk.move(plate + 2, 0);
                desk.move(1, 0);
                desk.setKnockout(plate, 1);
                // the plate's full spot stands behind the other two, so they are at 0 already
                parts(desk, "full " + plate, 255, 255, 255,
                    plate == 0 ? m[0] : 0, plate == 1 ? m[0] : 0, plate == 2 ? m[0] : 0);
                desk.remove(plate + 2);
                int own = m[0] * m[2] / 100;
                parts(desk, "plate " + plate + " " + name(m), 255, 255, 255,
                    plate == 0 ? own : m[3], plate == 1 ? own : m[3], plate == 2 ? own : m[3]);
            }
        }
    }

    /** "If the plate knocks out": one that does not leaves all the rest of the pixel. */
    private static void noKnockoutMovesItsTintAlone() {
        for (int plate = 0; plate < 3; plate++) {
            SeparationDesk desk = new SeparationDesk();
            desk.setInk(10, 20, 30);
            desk.addRect(0);
            int[] want = {10, 20, 30, 40, 50, 60};
            for (int other = 0; other < 3; other++) {
                desk.setKnockout(other, 0);
                desk.addSpot(0, other, 40 + 10 * other);
            }
            desk.addSpot(0, plate, 255);
            want[3 + plate] = 255;
            parts(desk, "tint 255 on plate " + plate, want);
            desk.addSpot(0, plate, 0);
            want[3 + plate] = 0;
            parts(desk, "tint 0 on plate " + plate, want);
        }
    }

    /** "If the plate knocks out (initially all three do)": on and off for each plate, at any time. */
    private static void eachPlateKnocksOutOrNot() {
        SeparationDesk desk = new SeparationDesk();
        desk.setInk(10, 20, 30);
        desk.addRect(0);
        for (int plate = 0; plate < 3; plate++) {
            desk.addSpot(0, plate, 40 + 10 * plate);
        }
        // the number of a row has bit p if plate p knocks out
        int[][] want = {
            {10, 20, 30, 40, 50, 60}, {255, 255, 255, 40, 50, 60}, {255, 255, 255, 0, 50, 60},
            {255, 255, 255, 0, 50, 60}, {255, 255, 255, 0, 0, 60}, {255, 255, 255, 0, 0, 60},
            {255, 255, 255, 0, 0, 60}, {255, 255, 255, 0, 0, 60}};
        parts(desk, "initially all three", want[7]);
        for (int set = 0; set < 8; set++) {
            for (int plate = 0; plate < 3; plate++) {
                desk.setKnockout(plate, set >> plate & 1);
            }
            parts(desk, "knockouts " + set, want[set]);
        }
    }

    /** "The effective opacity of a group is 100 for the root": at 100, a node covers all that came before it. */
    private static void fullOpacity() {
        SeparationDesk desk = deskWithGroup(100);
        desk.setInk(1, 2, 3);
        desk.addRect(1);
        parts(desk, "a rect", 1, 2, 3, 0, 0, 0);
        desk.addSpot(1, 0, 7);
        parts(desk, "a spot", 255, 255, 255, 7, 0, 0);
        desk.addSpot(1, 1, 8);
        parts(desk, "another spot", 255, 255, 255, 0, 8, 0);
        desk.addRect(1);
        parts(desk, "a rect again", 1, 2, 3, 0, 0, 0);
    }

    /** "whose parent has an effective opacity above 0" */
    private static void opacityZeroIsNoTouch() {
        SeparationDesk desk = deskWithGroup(0);
        desk.addRect(1);
        desk.addSpot(1, 0, 255);
        desk.addGroup(1, 100, 0, 0);
        desk.addRect(4);
        parts(desk, "opacity 0", 255, 255, 255, 0, 0, 0);
        due.is("no touch", desk.touchedBy(0, 0), NOT_FOUND);
        desk.addRect(0);
        due.is("the root touches", desk.touchedBy(0, 0), 6);
        desk.move(1, 0);
        due.is("what is visited later does not", desk.touchedBy(0, 0), 6);
        desk.addGroup(0, 1, 0, 0);
        desk.addRect(7);
        due.is("opacity 1 does", desk.touchedBy(0, 0), 8);
    }

    /** "the last one visited that contains the pixel": also if it changes no part of it. */
    private static void latestTouchOfOverlappingNodes() {
        SeparationDesk desk = new SeparationDesk();
        desk.setInk(255, 255, 255);
        desk.addRect(0);
        due.is("white on white", desk.touchedBy(0, 0), 1);
        desk.addSpot(0, 1, 0);
        due.is("tint 0", desk.touchedBy(0, 0), 2);
        desk.setBox(1, 0, 1, 1);
        desk.addRect(0);
        due.is("one beside it does not count", desk.touchedBy(0, 0), 2);
        desk.setBox(0, 0, 12, 12);
        desk.addGroup(0, 100, 0, 0);
        desk.addRect(4);
        desk.addGroup(4, 100, 0, 0);
        due.is("in a group", desk.touchedBy(0, 0), 5);
        due.is("the number, not the place, is answered", desk.touchedBy(1, 0), 5);
        desk.remove(1);
        desk.addRect(6);
        due.is("a low number used again", desk.touchedBy(1, 0), 1);
        desk.move(2, 0);
        due.is("moved to the end", desk.touchedBy(0, 0), 2);
    }

    /** "The nodes are visited beginning with the root; a group visits its children one after the other." */
    private static void nodesAreVisitedGroupByGroup() {
        SeparationDesk desk = new SeparationDesk();
        desk.addGroup(0, 50, 0, 0);
        desk.addGroup(1, 50, 0, 0);
        desk.setInk(0, 0, 0);
        desk.addRect(0);
        desk.setInk(200, 200, 200);
        desk.addRect(1);
        desk.setInk(100, 100, 100);
        desk.addRect(2);
        // group 2 is the first child of 1, so: 100 by 25, 200 by 50, black in full
        parts(desk, "black is last", 0, 0, 0, 0, 0, 0);
        desk.remove(3);
        parts(desk, "216 moves to 208", 208, 208, 208, 0, 0, 0);
        desk.move(2, 1);
        // 255 to 227, then a quarter of the way to 100
        parts(desk, "group 2 is last", 195, 195, 195, 0, 0, 0);
        desk.move(2, 0);
        // the same order, but now half of the way
        parts(desk, "group 2 is outside", 163, 163, 163, 0, 0, 0);
    }

    /** "For a rect or spot that contains the pixel": no other pixel moves. */
    private static void onlyContainedPixelsMove() {
        SeparationDesk desk = new SeparationDesk();
        desk.setBox(0, 0, 1, 1);
        desk.addRect(0);
        desk.addSpot(0, 2, 99);
        due.is("its pixel's tint", desk.rendered(0, 0, 5), 99);
        due.is("right of it, tint", desk.rendered(1, 0, 5), 0);
        due.is("below it, tint", desk.rendered(0, 1, 5), 0);
        desk.setKnockout(2, 0);
        due.is("its pixel's red", desk.rendered(0, 0, 0), 0);
        due.is("right of it, red", desk.rendered(1, 0, 0), 255);
        due.is("below it, red", desk.rendered(0, 1, 0), 255);
    }
}
