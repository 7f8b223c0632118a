/** The section "Curves" and its methods, sentence by sentence. */
public final class CurveEdgesTest {
    private static final int INVALID = SeparationDesk.INVALID_ARGUMENT;
    private static final int IMPOSSIBLE = SeparationDesk.NOT_POSSIBLE;
    private static final int FULL = SeparationDesk.LIMIT_REACHED;
    private static final int NOT_FOUND = SeparationDesk.NOT_FOUND;
    private static final Due due = new Due();

    public static void main(String[] args) {
        initialPoints();
        twoPoints();
        eightPoints();
        eightPointsAtEachPlate();
        pointsAtTheEnds();
        outputsDoNotDecrease();
        replacedPointBetweenItsNeighbors();
        firstAndLastInputStay();
        removedPoints();
        valuesBetweenTwoPoints();
        valuesAtPoints();
        neighboringInputs();
        equalOutputs();
        inverseOfAStraightCurve();
        inverseIsTheLeastInput();
        noInverse();
        simplifyStraightCurves();
        simplifySteps();
        simplifyEightPoints();
        simplifyTwice();
        simplifyKeepsTheValuesAtItsInputs();
        due.end();
    }

    private static SeparationDesk desk(int plate, int... points) {
        SeparationDesk desk = new SeparationDesk();
        // the last point first, so that no output is above that of a later point
        for (int i = points.length - 2; i >= 0; i -= 2) {
            due.holds("a point at " + points[i], desk.setPoint(plate, points[i], points[i + 1]) >= 2);
        }
        return desk;
    }

    /** "Initially the points are (0, 0) and (255, 255)." */
    private static void initialPoints() {
        for (int plate = 0; plate < 7; plate++) {
            SeparationDesk desk = new SeparationDesk();
            int[] inputs = {0, 1, 127, 128, 254, 255};
            for (int input : inputs) {
                due.is("straight", desk.curve(plate, input), input);
            }
            due.is("no inner point at 1", desk.removePoint(plate, 1), NOT_FOUND);
            due.is("no inner point at 254", desk.removePoint(plate, 254), NOT_FOUND);
            due.is("the point at 0 stands", desk.setPoint(plate, 0, 0), 2);
            due.is("the point at 255 stands", desk.setPoint(plate, 255, 255), 2);
        }
    }

    /** "The curve of a plate is given by 2 to 8 points": 2. */
    private static void twoPoints() {
        SeparationDesk desk = desk(3, 0, 10, 255, 20);
        due.is("still two", desk.setPoint(3, 255, 61), 2);
        int[][] values = {{0, 10}, {4, 10}, {5, 11}, {254, 60}, {255, 61}};
        for (int[] v : values) {
            due.is("value at " + v[0], desk.curve(3, v[0]), v[1]);
        }
        due.is("the first one can't be removed", desk.removePoint(3, 0), INVALID);
        due.is("nor the last one", desk.removePoint(3, 255), INVALID);
        due.is("both stand", desk.setPoint(3, 0, 10), 2);
    }

    /** "The curve of a plate is given by 2 to 8 points": 8, and a ninth. */
    private static void eightPoints() {
        SeparationDesk desk = new SeparationDesk();
        int[] inputs = {200, 1, 254, 100, 150, 50};
        for (int i = 0; i < inputs.length; i++) {
            due.is("point at " + inputs[i], desk.setPoint(5, inputs[i], inputs[i]), i + 3);
        }
        int[] further = {2, 75, 253};
        for (int input : further) {
            due.is("a ninth point at " + input, desk.setPoint(5, input, input), FULL);
            due.is("a ninth one too low", desk.setPoint(5, input, 0), IMPOSSIBLE);
            due.is("a ninth one too high", desk.setPoint(5, input, 255), IMPOSSIBLE);
            due.is("a ninth one beyond all", desk.setPoint(5, input, 256), INVALID);
        }
        int[] present = {0, 1, 50, 100, 150, 200, 254, 255};
        for (int input : present) {
            due.is("the point at " + input + " again", desk.setPoint(5, input, input), 8);
        }
        due.is("another output", desk.setPoint(5, 100, 101), 8);
        due.is("its value", desk.curve(5, 100), 101);
        due.is("one less", desk.removePoint(5, 254), 254);
        due.is("one more", desk.setPoint(5, 253, 253), 8);
        due.is("and no further one", desk.setPoint(5, 254, 254), FULL);
    }

    /** The points of one curve do not count for another one. */
    private static void eightPointsAtEachPlate() {
        SeparationDesk desk = new SeparationDesk();
        for (int plate = 0; plate < 7; plate++) {
            for (int i = 1; i <= 6; i++) {
                due.is("point of plate " + plate, desk.setPoint(plate, 10 * i, 10 * i + plate), i + 2);
            }
            due.is("a ninth one of plate " + plate, desk.setPoint(plate, 100, 100), FULL);
        }
        for (int plate = 0; plate < 7; plate++) {
            due.is("value of plate " + plate, desk.curve(plate, 30), 30 + plate);
        }
    }

    /** "the first input is 0 and the last one 255": points next to them, and their outputs. */
    private static void pointsAtTheEnds() {
        SeparationDesk desk = new SeparationDesk();
        due.is("at 1", desk.setPoint(0, 1, 200), 3);
        due.is("at 254", desk.setPoint(0, 254, 201), 4);
        int[] want = {0, 200, 200, 200, 201, 255};
        int[] inputs = {0, 1, 2, 253, 254, 255};
        for (int i = 0; i < inputs.length; i++) {
            due.is("value at " + inputs[i], desk.curve(0, inputs[i]), want[i]);
        }
        due.is("at 0 as high as at 1", desk.setPoint(0, 0, 200), 4);
        due.is("at 0 higher", desk.setPoint(0, 0, 201), IMPOSSIBLE);
        due.is("at 255 as low as at 254", desk.setPoint(0, 255, 201), 4);
        due.is("at 255 lower", desk.setPoint(0, 255, 200), IMPOSSIBLE);
        due.is("value at 0", desk.curve(0, 0), 200);
        due.is("value at 255", desk.curve(0, 255), 201);
    }

    /** "outputs do not decrease": equal to the neighbors, and one beyond each. */
    private static void outputsDoNotDecrease() {
        int[][] cases = {
            {101, 79, IMPOSSIBLE}, {101, 80, 5}, {101, 120, 5}, {101, 121, IMPOSSIBLE},
            {199, 79, IMPOSSIBLE}, {199, 80, 5}, {199, 120, 5}, {199, 121, IMPOSSIBLE},
            {99, 81, IMPOSSIBLE}, {99, 80, 5}, {99, 0, 5}, {1, 0, 5}, {1, 80, 5}, {1, 81, IMPOSSIBLE},
            {201, 119, IMPOSSIBLE}, {201, 120, 5}, {201, 255, 5}, {254, 119, IMPOSSIBLE}, {254, 255, 5},
            {0, 80, 4}, {0, 81, IMPOSSIBLE}, {255, 120, 4}, {255, 119, IMPOSSIBLE},
            {100, 0, 4}, {100, 120, 4}, {100, 121, IMPOSSIBLE}, {200, 79, IMPOSSIBLE}, {200, 80, 4}, {200, 255, 4}};
        for (int[] c : cases) {
            SeparationDesk desk = desk(6, 100, 80, 200, 120);
            int before = desk.curve(6, c[0]);
            due.is("point " + c[0] + ", " + c[1], desk.setPoint(6, c[0], c[1]), c[2]);
            due.is("value at " + c[0], desk.curve(6, c[0]), c[2] < 0 ? before : c[1]);
        }
    }

    /** "or replaces the output of the point with this input": its own old output does not bind it. */
    private static void replacedPointBetweenItsNeighbors() {
        SeparationDesk desk = desk(1, 100, 100);
        due.is("up to the last", desk.setPoint(1, 100, 255), 3);
        due.is("value", desk.curve(1, 100), 255);
        due.is("down to the first", desk.setPoint(1, 100, 0), 3);
        due.is("value", desk.curve(1, 100), 0);
        due.is("the first at the last's", desk.setPoint(1, 0, 255), IMPOSSIBLE);
        due.is("without the inner point", desk.removePoint(1, 100), 0);
        due.is("the first at the last's then", desk.setPoint(1, 0, 255), 2);
        due.is("the last below the first", desk.setPoint(1, 255, 254), IMPOSSIBLE);
        due.is("and the first down again", desk.setPoint(1, 0, 0), 2);
        due.is("and the last down", desk.setPoint(1, 255, 0), 2);
    }

    /** "removePoint: input 1 to 254" */
    private static void firstAndLastInputStay() {
        SeparationDesk desk = desk(2, 1, 1, 254, 254);
        int[] wrong = {0, 255, -1, 256};
        for (int input : wrong) {
            due.is("input " + input, desk.removePoint(2, input), INVALID);
        }
        due.is("input 1", desk.removePoint(2, 1), 1);
        due.is("input 254", desk.removePoint(2, 254), 254);
        due.is("two are left", desk.setPoint(2, 0, 0), 2);
    }

    /** "Removes a point from a curve. Returns the output of the point; .. NOT_FOUND if there is no such point." */
    private static void removedPoints() {
        int[] inputs = {10, 20, 30, 40, 50, 60};
        for (int removed : inputs) {
            SeparationDesk desk = new SeparationDesk();
            for (int input : inputs) {
                desk.setPoint(4, input, 2 * input);
            }
            due.is("beside a point", desk.removePoint(4, removed + 1), NOT_FOUND);
            due.is("on another plate", desk.removePoint(3, removed), NOT_FOUND);
            due.is("output at " + removed, desk.removePoint(4, removed), 2 * removed);
            due.is("removed before", desk.removePoint(4, removed), NOT_FOUND);
            for (int input : inputs) {
                // behind 50, without the point at 60, the curve goes from 100 at 50 to 255 at 255
                int value = input == 60 && removed == 60 ? 100 + 155 * 10 / 205 : 2 * input;
                due.is("value at " + input + " then", desk.curve(4, input), value);
            }
            due.is("seven are left", desk.setPoint(4, 0, 0), 7);
        }
    }

    /** "Between two points .. the value for v is oa + (ob - oa) * (v - a) / (b - a)", rounded down. */
    private static void valuesBetweenTwoPoints() {
        SeparationDesk desk = desk(0, 0, 3, 10, 3, 20, 12, 30, 13, 255, 255);
        int[][] values = {
            {0, 3}, {1, 3}, {9, 3}, {10, 3}, {11, 3}, {12, 4}, {19, 11}, {20, 12}, {21, 12}, {29, 12}, {30, 13},
            {31, 14}, {32, 15}, {44, 28}, {45, 29}, {254, 253}, {255, 255}};
        for (int[] v : values) {
            due.is("value at " + v[0], desk.curve(0, v[0]), v[1]);
        }
        desk = desk(0, 255, 1);
        due.is("one step at the end", desk.curve(0, 254), 0);
        due.is("just at the end", desk.curve(0, 255), 1);
        desk = desk(0, 0, 254, 255, 255);
        due.is("254 for long", desk.curve(0, 254), 254);
        due.is("255 at the end", desk.curve(0, 255), 255);
    }

    /** The value at a point is its output. */
    private static void valuesAtPoints() {
        int[] points = {0, 5, 1, 6, 85, 6, 86, 90, 170, 91, 253, 200, 254, 201, 255, 250};
        SeparationDesk desk = desk(5, points);
        for (int i = 0; i < points.length; i += 2) {
            due.is("value at " + points[i], desk.curve(5, points[i]), points[i + 1]);
            due.is("inverse of " + points[i + 1], desk.inverse(5, points[i + 1]), points[i] == 85 ? 1 : points[i]);
        }
    }

    /** "inputs are ascending": two of them may be neighbors. */
    private static void neighboringInputs() {
        int[] firsts = {0, 100, 254};
        for (int first : firsts) {
            SeparationDesk desk = desk(2, first, 0, first + 1, 255);
            due.is("at " + first, desk.curve(2, first), 0);
            due.is("at the next", desk.curve(2, first + 1), 255);
            due.is("least input for 0", desk.inverse(2, 0), 0);
            due.is("least input for 1", desk.inverse(2, 1), first + 1);
            due.is("least input for 255", desk.inverse(2, 255), first + 1);
            due.is("below", desk.curve(2, first / 2), 0);
            due.is("above", desk.curve(2, (first + 256) / 2), 255);
        }
    }

    /** "outputs do not decrease": they may all be equal. */
    private static void equalOutputs() {
        int[] outputs = {0, 7, 255};
        for (int output : outputs) {
            SeparationDesk desk = new SeparationDesk();
            desk.setPoint(1, 255, output);
            if (output == 255) {
                desk.setPoint(1, 0, 255);
            }
            due.is("flat at " + output, desk.setPoint(1, 0, output), 2);
            due.is("an equal point", desk.setPoint(1, 100, output), 3);
            due.is("one higher", desk.setPoint(1, 101, output + 1), output == 255 ? INVALID : IMPOSSIBLE);
            due.is("one lower", desk.setPoint(1, 99, output - 1), output == 0 ? INVALID : IMPOSSIBLE);
            int[] inputs = {0, 1, 99, 100, 101, 254, 255};
            for (int input : inputs) {
                due.is("value at " + input, desk.curve(1, input), output);
            }
            due.is("inverse of 0", desk.inverse(1, 0), 0);
            due.is("inverse of the output", desk.inverse(1, output), 0);
            due.is("inverse of one more", desk.inverse(1, output + 1), output == 255 ? INVALID : NOT_FOUND);
            due.is("simplified", desk.simplify(1), 0);
        }
    }

    /** "The inverse of a curve for an output o is the least input whose value is at least o." */
    private static void inverseOfAStraightCurve() {
        for (int plate = 0; plate < 7; plate++) {
            SeparationDesk desk = new SeparationDesk();
            for (int output = 0; output < 256; output++) {
                due.is("inverse of " + output, desk.inverse(plate, output), output);
            }
        }
    }

    /** "the least input whose value is at least o": where values repeat, and where they leave values out. */
    private static void inverseIsTheLeastInput() {
        SeparationDesk desk = desk(3, 0, 4, 10, 4, 20, 34, 30, 34, 255, 34);
        int[][] inverses = {{0, 0}, {3, 0}, {4, 0}, {5, 11}, {6, 11}, {7, 11}, {8, 12}, {33, 20}, {34, 20}, {35, NOT_FOUND}};
        for (int[] v : inverses) {
            due.is("inverse of " + v[0], desk.inverse(3, v[0]), v[1]);
        }
        desk = desk(3, 255, 1);
        due.is("the last input alone", desk.inverse(3, 1), 255);
        due.is("all inputs", desk.inverse(3, 0), 0);
        due.is("none", desk.inverse(3, 2), NOT_FOUND);
    }

    /** "NOT_FOUND if there is none." */
    private static void noInverse() {
        SeparationDesk desk = desk(0, 255, 254);
        due.is("254", desk.inverse(0, 254), 255);
        due.is("255", desk.inverse(0, 255), NOT_FOUND);
        due.is("256", desk.inverse(0, 256), INVALID);
        due.is("on another plate", desk.inverse(1, 255), 255);
        desk = desk(0, 255, 0);
        due.is("0", desk.inverse(0, 0), 0);
        due.is("1", desk.inverse(0, 1), NOT_FOUND);
        due.is("255", desk.inverse(0, 255), NOT_FOUND);
        due.is("-1", desk.inverse(0, -1), INVALID);
    }

    /** "straight pieces through the present curve's values at inputs 0, 85, 170 and 255": three equal thirds. */
    private static void simplifyStraightCurves() {
        for (int plate = 0; plate < 7; plate++) {
            SeparationDesk desk = new SeparationDesk();
            due.is("no difference", desk.simplify(plate), 0);
            for (int input = 0; input < 256; input++) {
                due.is("value at " + input, desk.curve(plate, input), input);
            }
            int[] inner = {85, 170};
            for (int input : inner) {
                due.is("a point at " + input, desk.removePoint(plate, input), input);
            }
            due.is("and no further one", desk.setPoint(plate, 0, 0), 2);
        }
    }

    /** "Returns the greatest absolute difference of the values of both curves, of all inputs" */
    private static void simplifySteps() {
        // two neighboring points, then the difference
        int[][] cases = {
            {0, 0, 1, 255, 252}, {254, 0, 255, 255, 252}, {84, 0, 85, 255, 252}, {85, 0, 86, 255, 252},
            {169, 0, 170, 255, 252}, {170, 0, 171, 255, 252}, {127, 0, 128, 255, 126}};
        for (int[] c : cases) {
            SeparationDesk desk = desk(2, c[0], c[1], c[2], c[3]);
            String step = "a step from " + c[0] + " to " + c[2];
            due.is(step, desk.simplify(2), c[4]);
            due.is(step + ", four points", desk.setPoint(2, 255, desk.curve(2, 255)), 4);
        }
        SeparationDesk desk = desk(2, 0, 0, 1, 255);
        desk.simplify(2);
        due.is("above the old one nowhere, below it at 1", desk.curve(2, 1), 3);
        desk = desk(2, 254, 0, 255, 255);
        desk.simplify(2);
        due.is("above the old one at 254", desk.curve(2, 254), 252);
    }

    /** "The curve of a plate is given by 2 to 8 points": 8 of them become 4, whether they lie at 85 and 170 or not. */
    private static void simplifyEightPoints() {
        SeparationDesk desk = desk(6, 0, 10, 20, 20, 85, 30, 100, 90, 169, 100, 170, 110, 254, 120, 255, 200);
        int[] want = {10, 30, 110, 200};
        // at 254 the new curve has 110 + 90 * 84 / 85 = 198, at 84 29 and at 100 30 + 80 * 15 / 85 = 44
        due.is("greatest difference", desk.simplify(6), 78);
        for (int i = 0; i < 4; i++) {
            due.is("value at " + 85 * i, desk.curve(6, 85 * i), want[i]);
        }
        due.is("no point at 20", desk.removePoint(6, 20), NOT_FOUND);
        due.is("no point at 254", desk.removePoint(6, 254), NOT_FOUND);
        due.is("four points", desk.setPoint(6, 85, 30), 4);
        int[] inputs = {1, 2, 3, 4};
        for (int i = 0; i < inputs.length; i++) {
            due.is("room for four more", desk.setPoint(6, inputs[i], 10), 5 + i);
        }
        due.is("and no fifth", desk.setPoint(6, 5, 10), FULL);
    }

    /** A simplified curve is its own simplification. */
    private static void simplifyTwice() {
        SeparationDesk desk = desk(4, 30, 100, 200, 120);
        due.holds("a difference at first", desk.simplify(4) > 0);
        int[] before = new int[256];
        for (int input = 0; input < 256; input++) {
            before[input] = desk.curve(4, input);
        }
        due.is("none then", desk.simplify(4), 0);
        for (int input = 0; input < 160; input++) {
            due.is("value at " + input, desk.curve(4, input), before[input]);
        }
        due.is("still four points", desk.setPoint(4, 0, 0), 4);
    }

    /** "through the present curve's values", which are rounded down. */
    private static void simplifyKeepsTheValuesAtItsInputs() {
        SeparationDesk desk = desk(1, 0, 1, 255, 100);
        // 99 * 85 / 255 is 33, 99 * 170 / 255 is 66
        due.is("no difference", desk.simplify(1), 0);
        due.is("at 85", desk.removePoint(1, 85), 34);
        due.is("at 170", desk.removePoint(1, 170), 67);
        desk = desk(1, 255, 100);
        // 33.3 and 66.6: the pieces rise by 33, 33 and 34
        desk.simplify(1);
        due.is("rounded at 85", desk.curve(1, 85), 33);
        due.is("rounded at 170", desk.curve(1, 170), 66);
        due.is("other plates stay", desk.removePoint(0, 85), NOT_FOUND);
    }
}
