/** The section "Separation", step by step. */
public final class SeparationEdgesTest {
    private static final int A = 0;
    private static final int S = 1;
    private static final int L = 2;
    private static final int MOST_LIMIT = 1785;
    private static final int BLACK = 0;
    private static final int WHITE = 0xffffff;
    private static final Due due = new Due();

    public static void main(String[] args) {
        initialSettings();
        amountAtItsEnds();
        startAtItsEnds();
        grayNeedsAllThree();
        tintsAreSpotValues();
        curvesComeAfterGray();
        curvesComeBeforeTheLimit();
        greatestLimit();
        leastLimit();
        leastLimitOfNothing();
        restJustEnough();
        restNegative();
        restOfZero();
        limitBelowTheSpots();
        limitOfOneSpot();
        limitRoundsEachColorDown();
        blackAloneAboveTheLimit();
        inkOfIsThatOfAPixel();
        partsOfAColor();
        inkOfTakesAllCurves();
        inkOfIgnoresThePage();
        due.end();
    }

    private static int color(int cyan, int magenta, int yellow) {
        return 65536 * (255 - cyan) + 256 * (255 - magenta) + 255 - yellow;
    }

    private static void inksOf(SeparationDesk desk, String name, int color, int... want) {
        int sum = 0;
        for (int plate = 0; plate < 7; plate++) {
            int due7 = plate < want.length ? want[plate] : 0;
            due.is(name + ", plate " + plate, desk.inkOf(color, plate), due7);
            sum += due7;
        }
        due.is(name + ", sum", desk.inkOf(color, 7), sum);
    }

    private static void inks(SeparationDesk desk, String name, int... want) {
        int sum = 0;
        for (int plate = 0; plate < 7; plate++) {
            due.is(name + ", plate " + plate, desk.ink(0, 0, plate), want[plate]);
            sum += want[plate];
        }
        due.is(name + ", sum", desk.ink(0, 0, 7), sum);
    }

    /** "a gray amount A (.. initially 50), a gray start S (.. initially 40) and an ink limit L (.. initially 700)" */
    private static void initialSettings() {
        SeparationDesk desk = new SeparationDesk();
        // g is 60
        inksOf(desk, "A and S", color(100, 110, 120), 70, 80, 90, 30);
        // g is 215; three times 148 are 444, so that 256 are left for K and the spots
        inksOf(desk, "black", BLACK, 148, 148, 148, 107);
        desk.setPoint(3, 255, 255);
        desk.setPoint(3, 107, 255);
        desk.setPoint(4, 0, 1);
        inksOf(desk, "L just enough", BLACK, 148, 148, 148, 255, 1);
        desk.setPoint(4, 0, 2);
        // rest 443 of 444
        inksOf(desk, "L one too little", BLACK, 147, 147, 147, 255, 2);
    }

    /** "K is g * A / 100, and it is subtracted from C, M and Y.": A from 0 to 100. */
    private static void amountAtItsEnds() {
        SeparationDesk desk = new SeparationDesk();
        desk.set(S, 0);
        desk.set(L, MOST_LIMIT);
        desk.set(A, 0);
        inksOf(desk, "A 0", color(200, 150, 100), 200, 150, 100, 0);
        inksOf(desk, "A 0, black", BLACK, 255, 255, 255, 0);
        desk.set(A, 1);
        inksOf(desk, "A 1", color(200, 150, 100), 199, 149, 99, 1);
        inksOf(desk, "A 1 of 99", color(200, 150, 99), 200, 150, 99, 0);
        desk.set(A, 99);
        inksOf(desk, "A 99", color(200, 150, 100), 101, 51, 1, 99);
        inksOf(desk, "A 99 of 1", color(1, 1, 1), 1, 1, 1, 0);
        inksOf(desk, "A 99, black", BLACK, 3, 3, 3, 252);
        desk.set(A, 100);
        inksOf(desk, "A 100", color(200, 150, 100), 100, 50, 0, 100);
        inksOf(desk, "A 100 of 1", color(1, 1, 1), 0, 0, 0, 1);
        inksOf(desk, "A 100, black", BLACK, 0, 0, 0, 255);
    }

    /** "Let g be the smallest one of them minus S, but at least 0.": S from 0 to 255. */
    private static void startAtItsEnds() {
        SeparationDesk desk = new SeparationDesk();
        desk.set(A, 100);
        desk.set(L, MOST_LIMIT);
        int[][] cases = {{0, 100}, {1, 99}, {99, 1}, {100, 0}, {101, 0}, {254, 0}, {255, 0}};
        for (int[] c : cases) {
            desk.set(S, c[0]);
            inksOf(desk, "S " + c[0], color(200, 150, 100), 200 - c[1], 150 - c[1], 100 - c[1], c[1]);
        }
        desk.set(S, 254);
        inksOf(desk, "S 254, black", BLACK, 254, 254, 254, 1);
        desk.set(S, 255);
        inksOf(desk, "S 255, black", BLACK, 255, 255, 255, 0);
        inksOf(desk, "S 255, white", WHITE, 0, 0, 0, 0);
        desk.set(S, 0);
        inksOf(desk, "S 0, white", WHITE, 0, 0, 0, 0);
    }

    /** "the smallest one of them", whichever it is. */
    private static void grayNeedsAllThree() {
        SeparationDesk desk = new SeparationDesk();
        desk.set(S, 0);
        desk.set(A, 100);
        inksOf(desk, "C is smallest", color(10, 20, 30), 0, 10, 20, 10);
        inksOf(desk, "M is smallest", color(30, 10, 20), 20, 0, 10, 10);
        inksOf(desk, "Y is smallest", color(20, 30, 10), 10, 20, 0, 10);
        inksOf(desk, "no C", color(0, 255, 255), 0, 255, 255, 0);
        inksOf(desk, "no M", color(255, 0, 255), 255, 0, 255, 0);
        inksOf(desk, "no Y", color(255, 255, 0), 255, 255, 0, 0);
    }

    /** A pixel with these tints over a rect with these values of C, M and Y. */
    private static SeparationDesk spottedDesk(int[] colors, int... tints) {
        SeparationDesk desk = new SeparationDesk();
        desk.setInk(255 - colors[0], 255 - colors[1], 255 - colors[2]);
        desk.addRect(0);
        for (int plate = 0; plate < 3; plate++) {
            desk.setKnockout(plate, 0);
            desk.addSpot(0, plate, tints[plate]);
        }
        return desk;
    }

    /** "The tints are the values of the plates 4 to 6." */
    private static void tintsAreSpotValues() {
        inks(spottedDesk(new int[] {0, 0, 0}, 1, 2, 3), "low tints", 0, 0, 0, 0, 1, 2, 3);
        SeparationDesk desk = spottedDesk(new int[] {0, 0, 0}, 255, 254, 253);
        desk.set(L, MOST_LIMIT);
        inks(desk, "high tints", 0, 0, 0, 0, 255, 254, 253);
        desk.set(A, 100);
        desk.set(S, 0);
        inks(desk, "no gray of tints", 0, 0, 0, 0, 255, 254, 253);
    }

    /** "Each of the seven values is replaced by the value that the curve of its plate gives.": after steps 1 and 2. */
    private static void curvesComeAfterGray() {
        for (int plate = 0; plate < 7; plate++) {
            SeparationDesk desk = spottedDesk(new int[] {200, 150, 100}, 11, 12, 13);
            // K is 30
            int[] want = {170, 120, 70, 30, 11, 12, 13};
            inks(desk, "straight curves", want);
            desk.setPoint(plate, want[plate], 14);
            desk.setPoint(plate, want[plate] - 1, 5);
            desk.setPoint(plate, want[plate] + 1, 100);
            want[plate] = 14;
            inks(desk, "the curve of plate " + plate, want);
        }
        SeparationDesk desk = new SeparationDesk();
        desk.setPoint(3, 255, 0);
        inksOf(desk, "a flat K leaves the colors as they are", color(200, 150, 100), 170, 120, 70, 0);
    }

    /** Step 4 takes the values that step 3 gave. */
    private static void curvesComeBeforeTheLimit() {
        SeparationDesk desk = new SeparationDesk();
        desk.set(S, 255);
        desk.set(L, 100);
        inksOf(desk, "limited", color(200, 0, 200), 50, 0, 50);
        desk.setPoint(0, 255, 100);
        desk.setPoint(0, 200, 25);
        // 25 and 200 of 225
        inksOf(desk, "the curve lowers C first", color(200, 0, 200), 11, 0, 88);
        desk.setPoint(2, 255, 75);
        desk.setPoint(2, 200, 75);
        inksOf(desk, "the curves' sum is no more than L", color(200, 0, 200), 25, 0, 75);
        desk.setPoint(3, 0, 1);
        // rest 99
        inksOf(desk, "K's curve takes one of the rest", color(200, 0, 200), 24, 0, 74, 1);
    }

    private static void fillPlate(SeparationDesk desk, int plate) {
        desk.setPoint(plate, 255, 255);
        desk.setPoint(plate, 0, 255);
    }

    /** "an ink limit L (0 to 1785 ..)": 1785 limits nothing. */
    private static void greatestLimit() {
        SeparationDesk desk = new SeparationDesk();
        for (int plate = 0; plate < 7; plate++) {
            fillPlate(desk, plate);
        }
        desk.set(L, MOST_LIMIT);
        inksOf(desk, "all plates full", WHITE, 255, 255, 255, 255, 255, 255, 255);
        due.is("no pixel is limited", desk.limitedPixels(), 0);
        desk.set(L, MOST_LIMIT - 1);
        inksOf(desk, "one less", WHITE, 254, 254, 254, 255, 255, 255, 255);
        due.is("every pixel is limited", desk.limitedPixels(), 48);
    }

    /** "an ink limit L (0 to 1785 ..)": 0 leaves no ink at all. */
    private static void leastLimit() {
        SeparationDesk desk = spottedDesk(new int[] {200, 150, 100}, 11, 12, 13);
        desk.set(L, 0);
        inks(desk, "L 0", 0, 0, 0, 0, 0, 0, 0);
        due.is("one limited pixel", desk.limitedPixels(), 1);
        desk.set(L, 1);
        // 13 * 1 / 36 is less than 1
        inks(desk, "L 1", 0, 0, 0, 0, 0, 0, 0);
        inksOf(desk, "L 1, black only", BLACK, 0, 0, 0, 1);
    }

    /** Step 4 with nothing to divide by: no spots, or no colors, and no rest. */
    private static void leastLimitOfNothing() {
        SeparationDesk desk = new SeparationDesk();
        desk.set(L, 0);
        inksOf(desk, "white", WHITE, 0, 0, 0, 0);
        due.is("no pixel is limited", desk.limitedPixels(), 0);
        inksOf(desk, "K without spots", BLACK, 0, 0, 0, 0);
        inksOf(desk, "colors without K", color(200, 200, 0), 0, 0, 0, 0);
        desk.addSpot(0, 1, 200);
        inks(desk, "a spot alone", 0, 0, 0, 0, 0, 0, 0);
    }

    /** "if the sum c of C, M and Y is greater than rest": one more, as much, and one less. */
    private static void restJustEnough() {
        // 170 + 120 + 70 are 360, and K 30
        int color = color(200, 150, 100);
        int[] tints = {11, 12, 13};
        int[][] cases = {{427, 170, 120, 70}, {426, 170, 120, 70}, {425, 169, 119, 69}, {246, 85, 60, 35}, {67, 0, 0, 0}};
        for (int[] c : cases) {
            SeparationDesk desk = spottedDesk(new int[] {200, 150, 100}, tints);
            desk.set(L, c[0]);
            inks(desk, "L " + c[0], c[1], c[2], c[3], 30, 11, 12, 13);
            due.is("changed by L " + c[0], desk.limitedPixels(), c[1] == 170 ? 0 : 1);
            desk.set(L, c[0] - 36);
            inksOf(desk, "without spots", color, c[1], c[2], c[3], 30);
        }
    }

    /** "If rest is negative, C, M and Y become 0, and then K becomes L minus the sum of the spot values" */
    private static void restNegative() {
        // K 30 and the spots 36
        int[][] cases = {{66, 30}, {65, 29}, {37, 1}, {36, 0}};
        for (int[] c : cases) {
            SeparationDesk desk = spottedDesk(new int[] {200, 150, 100}, 11, 12, 13);
            desk.set(L, c[0]);
            inks(desk, "L " + c[0], 0, 0, 0, c[1], 11, 12, 13);
            due.is("changed", desk.limitedPixels(), 1);
        }
    }

    /** "Otherwise": a rest of 0 is not negative. */
    private static void restOfZero() {
        SeparationDesk desk = spottedDesk(new int[] {0, 0, 0}, 11, 12, 13);
        desk.set(L, 36);
        inks(desk, "no colors and no K", 0, 0, 0, 0, 11, 12, 13);
        due.is("is not changed", desk.limitedPixels(), 0);
        desk.setPoint(3, 0, 5);
        desk.set(L, 41);
        inks(desk, "K without colors", 0, 0, 0, 5, 11, 12, 13);
        desk.set(L, 40);
        inks(desk, "K one less", 0, 0, 0, 4, 11, 12, 13);
        desk.setPoint(1, 0, 1);
        desk.set(L, 41);
        inks(desk, "a color of 1 goes", 0, 0, 0, 5, 11, 12, 13);
        desk.set(L, 42);
        inks(desk, "a color of 1 stays", 0, 1, 0, 5, 11, 12, 13);
    }

    /** "if it is, K becomes 0, and each spot value v becomes v * L / (sum of the spot values)" */
    private static void limitBelowTheSpots() {
        int[][] cases = {
            {36, 11, 12, 13}, {35, 10, 11, 12}, {34, 10, 11, 12}, {18, 5, 6, 6}, {4, 1, 1, 1}, {3, 0, 1, 1},
            {2, 0, 0, 0}, {0, 0, 0, 0}};
        for (int[] c : cases) {
            SeparationDesk desk = spottedDesk(new int[] {200, 150, 100}, 11, 12, 13);
            desk.set(L, c[0]);
            inks(desk, "L " + c[0], 0, 0, 0, 0, c[1], c[2], c[3]);
            desk.remove(1);
            inks(desk, "no rect, L " + c[0], 0, 0, 0, 0, c[1], c[2], c[3]);
        }
        SeparationDesk desk = spottedDesk(new int[] {0, 0, 0}, 255, 255, 255);
        desk.set(L, 764);
        inks(desk, "full spots", 0, 0, 0, 0, 254, 254, 254);
        desk.set(L, 765);
        inks(desk, "just enough for full spots", 0, 0, 0, 0, 255, 255, 255);
    }

    /** "each spot value v becomes v * L / (sum of the spot values)": one spot gets all of L. */
    private static void limitOfOneSpot() {
        for (int plate = 0; plate < 3; plate++) {
            SeparationDesk desk = new SeparationDesk();
            desk.addSpot(0, plate, 200);
            int[] limits = {201, 200, 199, 100, 1, 0};
            for (int limit : limits) {
                desk.set(L, limit);
                due.is("plate " + plate + ", L " + limit, desk.ink(0, 0, 4 + plate), Math.min(200, limit));
                due.is("sum", desk.ink(0, 0, 7), Math.min(200, limit));
                due.is("changed", desk.limitedPixels(), limit < 200 ? 1 : 0);
            }
        }
    }

    /** "each of them becomes its value times rest, divided by c": the sum may come below rest. */
    private static void limitRoundsEachColorDown() {
        SeparationDesk desk = new SeparationDesk();
        desk.set(S, 255);
        desk.set(L, 2);
        inksOf(desk, "three equal ones", color(1, 1, 1), 0, 0, 0);
        inksOf(desk, "two equal ones", color(1, 1, 0), 1, 1, 0);
        desk.set(L, 100);
        inksOf(desk, "one alone", color(0, 255, 0), 0, 100, 0);
        inksOf(desk, "one to two", color(100, 200, 0), 33, 66, 0);
        inksOf(desk, "all", color(255, 254, 1), 50, 49, 0);
        inksOf(desk, "as much as there is", color(60, 39, 1), 60, 39, 1);
    }

    /** "and then K becomes L minus the sum of the spot values, if that is not negative": without any spot it is L. */
    private static void blackAloneAboveTheLimit() {
        SeparationDesk desk = new SeparationDesk();
        desk.set(A, 100);
        desk.set(S, 0);
        int[] limits = {256, 255, 254, 1, 0};
        for (int limit : limits) {
            desk.set(L, limit);
            inksOf(desk, "L " + limit, BLACK, 0, 0, 0, Math.min(255, limit));
        }
        desk.set(L, 254);
        fillPlate(desk, 0);
        inksOf(desk, "C goes first", BLACK, 0, 0, 0, 254);
        desk.set(L, 256);
        inksOf(desk, "C gets the rest", BLACK, 1, 0, 0, 255);
    }

    /** "Separates a color without spots": like a pixel that has this color. */
    private static void inkOfIsThatOfAPixel() {
        int[][] colors = {{0, 0, 0}, {255, 255, 255}, {1, 2, 3}, {255, 0, 0}, {0, 255, 0}, {0, 0, 255}, {100, 150, 200}};
        int[] limits = {0, 100, 300, 1785};
        for (int[] c : colors) {
            SeparationDesk desk = new SeparationDesk();
            desk.setInk(c[0], c[1], c[2]);
            desk.addRect(0);
            for (int limit : limits) {
                desk.set(L, limit);
                for (int plate = 0; plate <= 7; plate++) {
                    int got = desk.inkOf(65536 * c[0] + 256 * c[1] + c[2], plate);
                    due.is("inkOf, plate " + plate, got, desk.ink(0, 0, plate));
                }
            }
        }
    }

    /** "65536 times red plus 256 times green plus blue, 0 to 16777215" */
    private static void partsOfAColor() {
        SeparationDesk desk = new SeparationDesk();
        desk.set(S, 255);
        desk.set(L, MOST_LIMIT);
        inksOf(desk, "0", 0, 255, 255, 255);
        inksOf(desk, "1", 1, 255, 255, 254);
        inksOf(desk, "255", 255, 255, 255, 0);
        inksOf(desk, "256", 256, 255, 254, 255);
        inksOf(desk, "65535", 65535, 255, 0, 0);
        inksOf(desk, "65536", 65536, 254, 255, 255);
        inksOf(desk, "16711680", 16711680, 0, 255, 255);
        inksOf(desk, "16777214", 16777214, 0, 0, 1);
        inksOf(desk, "16777215", 16777215, 0, 0, 0);
    }

    /** "by the present settings and curves": those of the spot plates serve for tints of 0 too. */
    private static void inkOfTakesAllCurves() {
        for (int plate = 0; plate < 7; plate++) {
            SeparationDesk desk = new SeparationDesk();
            desk.setPoint(plate, 0, 9);
            int[] want = new int[7];
            want[plate] = 9;
            inksOf(desk, "the curve of plate " + plate, WHITE, want);
        }
        SeparationDesk desk = new SeparationDesk();
        for (int plate = 4; plate < 7; plate++) {
            desk.setPoint(plate, 0, 9);
        }
        desk.set(L, 26);
        inksOf(desk, "the limit of such spots", BLACK, 0, 0, 0, 0, 8, 8, 8);
        desk.set(L, 28);
        inksOf(desk, "K beside such spots", BLACK, 0, 0, 0, 1, 9, 9, 9);
    }

    /** "Separates a color without spots": no node and no knockout counts. */
    private static void inkOfIgnoresThePage() {
        SeparationDesk desk = spottedDesk(new int[] {1, 2, 3}, 255, 254, 253);
        inksOf(desk, "white", WHITE, 0, 0, 0, 0);
        desk.setSize(1, 1);
        inksOf(desk, "gray", color(100, 110, 120), 70, 80, 90, 30);
        desk.setInk(9, 9, 9);
        inksOf(desk, "the ink of setInk does not count", WHITE, 0, 0, 0, 0);
    }
}
