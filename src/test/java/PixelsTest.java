/** Promises 19 to 22: rendered pixels, their inks, the inks of a color, and the latest touch. */
public final class PixelsTest {
    private static final int INVALID = SeparationDesk.INVALID_ARGUMENT;
    private static final int NOT_FOUND = SeparationDesk.NOT_FOUND;
    private static final int MOST = Integer.MAX_VALUE;
    private static final Due due = new Due();

    public static void main(String[] args) {
        renderedRects();
        renderedRoundsDown();
        renderedEffectiveOpacity();
        renderedSpots();
        renderedKnockouts();
        renderedOrder();
        renderedRanges();
        ink();
        grayReplacement();
        inkRanges();
        inkOf();
        inkOfTakesCurvesOfSpots();
        limitLowersColorsFirst();
        limitLowersBlackThen();
        limitLowersSpotsLast();
        touchedBy();
        touchedByWithOffset();
        due.end();
    }

    private static void parts(SeparationDesk desk, String name, int x, int y, int[] want) {
        for (int what = 0; what < want.length; what++) {
            due.is(name + ", part " + what, desk.rendered(x, y, what), want[what]);
        }
    }

    private static void inks(SeparationDesk desk, String name, int[] want) {
        int sum = 0;
        for (int plate = 0; plate < want.length; plate++) {
            due.is(name + ", plate " + plate, desk.ink(0, 0, plate), want[plate]);
            sum += want[plate];
        }
        due.is(name + ", sum", desk.ink(0, 0, 7), sum);
    }

    private static void renderedRects() {
        SeparationDesk desk = new SeparationDesk();
        desk.setBox(-12, -12, 12, 12);
        desk.addRect(0);
        parts(desk, "a box that ends before the page", 0, 0, new int[] {255, 255, 255, 0, 0, 0});
        desk.addGroup(0, 100, 1, 2);
        desk.setInk(1, 2, 3);
        desk.addRect(2);
        parts(desk, "shifted onto it", 0, 1, new int[] {1, 2, 3, 0, 0, 0});
        due.is("right of it", desk.rendered(1, 1, 0), 255);
        due.is("below it", desk.rendered(0, 2, 0), 255);
    }

    private static void renderedRoundsDown() {
        SeparationDesk desk = new SeparationDesk();
        desk.addGroup(0, 33, 0, 0);
        desk.setInk(100, 254, 255);
        desk.addRect(1);
        // 155 * 33 / 100 is 51.15, and 33 / 100 is 0.33: downwards, so 52 and 1
        parts(desk, "downwards", 0, 0, new int[] {203, 254, 255, 0, 0, 0});
        desk.setInk(210, 255, 255);
        desk.addRect(1);
        // 7 * 33 / 100 is 2.31
        parts(desk, "upwards", 0, 0, new int[] {205, 254, 255, 0, 0, 0});
    }

    private static void renderedEffectiveOpacity() {
        SeparationDesk desk = new SeparationDesk();
        desk.addGroup(0, 55, 0, 0);
        desk.addGroup(1, 55, 0, 0);
        desk.addGroup(2, 55, 0, 0);
        desk.addSpot(3, 0, 200);
        // 55 * 55 / 100 = 30, 30 * 55 / 100 = 16
        due.is("rounded at each group", desk.rendered(0, 0, 3), 32);
        desk.addGroup(0, 0, 0, 0);
        desk.addGroup(5, 100, 0, 0);
        desk.addRect(6);
        due.is("opacity 0 above", desk.rendered(0, 0, 0), 255);
    }

    private static void renderedSpots() {
        SeparationDesk desk = new SeparationDesk();
        desk.setInk(100, 150, 200);
        desk.addRect(0);
        desk.addGroup(0, 50, 0, 0);
        desk.addSpot(2, 1, 101);
        parts(desk, "a spot knocks out", 0, 0, new int[] {177, 202, 227, 0, 50, 0});
        desk.addSpot(2, 2, 255);
        parts(desk, "another plate's tint sinks", 0, 0, new int[] {216, 228, 241, 0, 25, 127});
        desk.addRect(2);
        parts(desk, "a rect lowers all tints", 0, 0, new int[] {158, 189, 220, 0, 12, 63});
        desk.addSpot(0, 0, 7);
        parts(desk, "a full spot", 0, 0, new int[] {255, 255, 255, 7, 0, 0});
        desk.addSpot(0, 2, 8);
        parts(desk, "over the first plate", 0, 0, new int[] {255, 255, 255, 0, 0, 8});
    }

    private static void renderedKnockouts() {
        SeparationDesk desk = new SeparationDesk();
        desk.setKnockout(1, 0);
        desk.setInk(10, 20, 30);
        desk.addRect(0);
        desk.addSpot(0, 1, 90);
        parts(desk, "no knockout leaves the colors", 0, 0, new int[] {10, 20, 30, 0, 90, 0});
        desk.addSpot(0, 2, 80);
        parts(desk, "the next one knocks out", 0, 0, new int[] {255, 255, 255, 0, 0, 80});
        desk.setKnockout(2, 0);
        parts(desk, "settings count when rendered", 0, 0, new int[] {10, 20, 30, 0, 90, 80});
        desk.addRect(0);
        parts(desk, "a rect lowers tints without knockout too", 0, 0, new int[] {10, 20, 30, 0, 0, 0});
    }

    private static void renderedOrder() {
        SeparationDesk desk = new SeparationDesk();
        desk.addGroup(0, 100, 0, 0);
        desk.setInk(9, 9, 9);
        desk.addRect(0);
        desk.setInk(5, 5, 5);
        desk.addRect(1);
        due.is("the group's rect comes first", desk.rendered(0, 0, 0), 9);
        desk.move(1, 0);
        due.is("the group's rect comes last", desk.rendered(0, 0, 0), 5);
    }

    private static void renderedRanges() {
        SeparationDesk desk = new SeparationDesk();
        due.is("greatest", desk.rendered(7, 5, 5), 0);
        int[][] wrong = {
            {-1, 0, 0}, {8, 0, 0}, {0, -1, 0}, {0, 6, 0}, {0, 0, -1}, {0, 0, 6}, {MOST, 0, 0}, {0, MOST, 0}};
        for (int[] w : wrong) {
            due.is("wrong", desk.rendered(w[0], w[1], w[2]), INVALID);
        }
    }

    private static void ink() {
        SeparationDesk desk = new SeparationDesk();
        desk.setInk(55, 105, 155);
        desk.addRect(0);
        desk.setKnockout(0, 0);
        desk.addSpot(0, 0, 33);
        // 200, 150, 100: g is 100 - 40, K half of it
        inks(desk, "plain", new int[] {170, 120, 70, 30, 33, 0, 0});
        desk.setPoint(3, 30, 60);
        desk.setPoint(1, 0, 5);
        desk.setPoint(4, 255, 128);
        inks(desk, "curves", new int[] {170, 5 + 250 * 120 / 255, 70, 60, 128 * 33 / 255, 0, 0});
    }

    private static void grayReplacement() {
        SeparationDesk desk = new SeparationDesk();
        desk.setInk(55, 105, 155);
        desk.addRect(0);
        desk.set(0, 33);
        inks(desk, "K rounds down", new int[] {181, 131, 81, 19, 0, 0, 0});
        desk.set(0, 100);
        inks(desk, "all gray", new int[] {140, 90, 40, 60, 0, 0, 0});
        desk.set(1, 0);
        inks(desk, "from 0 on", new int[] {100, 50, 0, 100, 0, 0, 0});
        desk.set(1, 100);
        inks(desk, "just at the start", new int[] {200, 150, 100, 0, 0, 0, 0});
        desk.set(1, 255);
        inks(desk, "below the start", new int[] {200, 150, 100, 0, 0, 0, 0});
        desk.set(1, 0);
        desk.set(0, 0);
        inks(desk, "no gray", new int[] {200, 150, 100, 0, 0, 0, 0});
    }

    private static void inkRanges() {
        SeparationDesk desk = new SeparationDesk();
        due.is("greatest", desk.ink(7, 5, 7), 0);
        int[][] wrong = {
            {-1, 0, 0}, {8, 0, 0}, {0, -1, 0}, {0, 6, 0}, {0, 0, -1}, {0, 0, 8}, {0, 0, MOST}};
        for (int[] w : wrong) {
            due.is("wrong", desk.ink(w[0], w[1], w[2]), INVALID);
        }
    }

    private static void inkOf() {
        SeparationDesk desk = new SeparationDesk();
        int color = 65536 * 55 + 256 * 105 + 155;
        int[] want = {170, 120, 70, 30, 0, 0, 0, 390};
        for (int plate = 0; plate <= 7; plate++) {
            due.is("inkOf, plate " + plate, desk.inkOf(color, plate), want[plate]);
        }
        due.is("red is brightest", desk.inkOf(65536 * 155 + 256 * 105 + 55, 3), 30);
        due.is("green is brightest", desk.inkOf(65536 * 105 + 256 * 155 + 55, 3), 30);
        due.is("white", desk.inkOf(16777215, 7), 0);
        due.is("black", desk.inkOf(0, 3), 107);
        due.is("color -1", desk.inkOf(-1, 0), INVALID);
        for (int plate = 0; plate <= 7; plate++) {
            due.is("color too great", desk.inkOf(16777216, plate), INVALID);
        }
        due.is("greatest color", desk.inkOf(MOST, 0), INVALID);
        due.is("plate -1", desk.inkOf(0, -1), INVALID);
        due.is("plate 8", desk.inkOf(0, 8), INVALID);
    }

    private static void inkOfTakesCurvesOfSpots() {
        SeparationDesk desk = new SeparationDesk();
        desk.addSpot(0, 1, 255);
        desk.setPoint(5, 0, 12);
        due.is("the page's tint", desk.rendered(0, 0, 4), 255);
        due.is("the page's tints don't count", desk.inkOf(16777215, 5), 12);
        due.is("sum", desk.inkOf(16777215, 7), 12);
    }

    /** A pixel of 255, 155, 55 and K 0, with a tint of 100 on each of two spot plates. */
    private static SeparationDesk deskWithTwoSpots() {
        SeparationDesk desk = new SeparationDesk();
        desk.set(1, 0);
        desk.setKnockout(0, 0);
        desk.setKnockout(2, 0);
        desk.setInk(0, 100, 200);
        desk.addRect(0);
        desk.addSpot(0, 0, 100);
        desk.addSpot(0, 2, 101);
        return desk;
    }

    private static void limitLowersColorsFirst() {
        SeparationDesk desk = deskWithTwoSpots();
        // K is 27, so the colors are 228, 128, 28 and their sum 384; all inks are 612
        inks(desk, "below the limit", new int[] {228, 128, 28, 27, 100, 0, 101});
        desk.set(2, 612);
        inks(desk, "at the limit", new int[] {228, 128, 28, 27, 100, 0, 101});
        desk.set(2, 611);
        inks(desk, "one above", new int[] {
            228 * 383 / 384, 128 * 383 / 384, 28 * 383 / 384, 27, 100, 0, 101});
        desk.set(2, 328);
        inks(desk, "rest 100", new int[] {59, 33, 7, 27, 100, 0, 101});
        desk.set(2, 228);
        inks(desk, "rest 0", new int[] {0, 0, 0, 27, 100, 0, 101});
    }

    private static void limitLowersBlackThen() {
        SeparationDesk desk = deskWithTwoSpots();
        desk.set(2, 227);
        inks(desk, "K one less", new int[] {0, 0, 0, 26, 100, 0, 101});
        desk.set(2, 202);
        inks(desk, "K 1", new int[] {0, 0, 0, 1, 100, 0, 101});
        desk.set(2, 201);
        inks(desk, "K 0", new int[] {0, 0, 0, 0, 100, 0, 101});
    }

    private static void limitLowersSpotsLast() {
        SeparationDesk desk = deskWithTwoSpots();
        desk.set(2, 200);
        inks(desk, "spots one too much", new int[] {0, 0, 0, 0, 99, 0, 100});
        desk.set(2, 10);
        inks(desk, "spots", new int[] {0, 0, 0, 0, 4, 0, 5});
        desk.set(2, 0);
        inks(desk, "no ink", new int[] {0, 0, 0, 0, 0, 0, 0});
    }

    private static void touchedByWithOffset() {
        SeparationDesk desk = new SeparationDesk();
        desk.addGroup(0, 100, 2, 3);
        desk.addRect(1);
        due.is("shifted", desk.touchedBy(2, 3), 2);
        due.is("not shifted", desk.touchedBy(0, 0), NOT_FOUND);
        due.is("a group alone touches nothing", desk.touchedBy(3, 3), NOT_FOUND);
    }

    private static void touchedBy() {
        SeparationDesk desk = new SeparationDesk();
        due.is("no node", desk.touchedBy(0, 0), NOT_FOUND);
        desk.setBox(0, 0, 2, 1);
        desk.addRect(0);
        desk.addGroup(0, 1, 1, 0);
        desk.addSpot(2, 0, 0);
        due.is("the rect", desk.touchedBy(0, 0), 1);
        due.is("the spot over the rect", desk.touchedBy(1, 0), 3);
        due.is("the spot alone", desk.touchedBy(2, 0), 3);
        due.is("no node there", desk.touchedBy(3, 0), NOT_FOUND);
        desk.addGroup(2, 99, -1, 0);
        desk.addRect(4);
        due.is("effective opacity 0", desk.touchedBy(0, 0), 1);
        desk.move(4, 0);
        due.is("effective opacity 99", desk.touchedBy(0, 0), 5);
        int[][] wrong = {{-1, 0}, {8, 0}, {0, -1}, {0, 6}, {MOST, 0}};
        for (int[] w : wrong) {
            due.is("wrong", desk.touchedBy(w[0], w[1]), INVALID);
        }
        due.is("last pixel", desk.touchedBy(7, 5), NOT_FOUND);
    }
}
