/** Promises 12 to 18: settings, knockouts and curves. */
public final class CurvesTest {
    private static final int INVALID = SeparationDesk.INVALID_ARGUMENT;
    private static final int IMPOSSIBLE = SeparationDesk.NOT_POSSIBLE;
    private static final int FULL = SeparationDesk.LIMIT_REACHED;
    private static final int NOT_FOUND = SeparationDesk.NOT_FOUND;
    private static final int LEAST = Integer.MIN_VALUE;
    private static final int MOST = Integer.MAX_VALUE;
    private static final Due due = new Due();

    public static void main(String[] args) {
        set();
        setKnockout();
        setPoint();
        setPointErrors();
        setPointErrorsInOrder();
        removePoint();
        curve();
        inverse();
        simplify();
        simplifyIsAChange();
        due.end();
    }

    private static void set() {
        SeparationDesk desk = new SeparationDesk();
        int[] initial = {50, 40, 700};
        int[] greatest = {100, 255, 1785};
        for (int what = 0; what < 3; what++) {
            due.is("initial " + what, desk.set(what, 0), initial[what]);
            due.is("least " + what, desk.set(what, greatest[what]), 0);
            due.is("beyond " + what, desk.set(what, greatest[what] + 1), INVALID);
            due.is("negative " + what, desk.set(what, -1), INVALID);
            due.is("far " + what, desk.set(what, MOST), INVALID);
            due.is("greatest " + what, desk.set(what, 77), greatest[what]);
        }
        due.is("what -1", desk.set(-1, 0), INVALID);
        due.is("what 3", desk.set(3, 0), INVALID);
        due.is("what least", desk.set(LEAST, 0), INVALID);
        due.is("A is apart", desk.set(0, 1), 77);
    }

    private static void setKnockout() {
        SeparationDesk desk = new SeparationDesk();
        due.is("off", desk.setKnockout(2, 0), 1);
        due.is("still off", desk.setKnockout(2, 0), 0);
        due.is("on", desk.setKnockout(2, 1), 0);
        due.is("another plate", desk.setKnockout(0, 0), 1);
        due.is("plate -1", desk.setKnockout(-1, 0), INVALID);
        due.is("plate 3", desk.setKnockout(3, 0), INVALID);
        due.is("on -1", desk.setKnockout(0, -1), INVALID);
        due.is("on 2", desk.setKnockout(0, 2), INVALID);
        due.is("errors change nothing", desk.setKnockout(0, 1), 0);
    }

    private static void setPoint() {
        SeparationDesk desk = new SeparationDesk();
        due.is("a new point", desk.setPoint(6, 200, 100), 3);
        due.is("one before it", desk.setPoint(6, 100, 100), 4);
        due.is("one between", desk.setPoint(6, 150, 100), 5);
        due.is("replaced", desk.setPoint(6, 200, 120), 5);
        due.is("its value", desk.curve(6, 200), 120);
        due.is("first point", desk.setPoint(6, 0, 100), 5);
        due.is("last point", desk.setPoint(6, 255, 120), 5);
        due.is("value at 0", desk.curve(6, 0), 100);
        due.is("value at 255", desk.curve(6, 255), 120);
        due.is("value between", desk.curve(6, 175), 110);
        due.is("another plate", desk.curve(5, 200), 200);
    }

    private static void setPointErrors() {
        SeparationDesk desk = new SeparationDesk();
        int[] wrong = {LEAST, -1, 256, MOST};
        for (int value : wrong) {
            due.is("input " + value, desk.setPoint(0, value, 5), INVALID);
            due.is("output " + value, desk.setPoint(0, 5, value), INVALID);
        }
        due.is("plate -1", desk.setPoint(-1, 5, 5), INVALID);
        due.is("plate 7", desk.setPoint(7, 5, 5), INVALID);
        desk.setPoint(0, 100, 100);
        due.is("above the next", desk.setPoint(0, 99, 101), IMPOSSIBLE);
        due.is("below the one before", desk.setPoint(0, 101, 99), IMPOSSIBLE);
        due.is("the first above the next", desk.setPoint(0, 0, 101), IMPOSSIBLE);
        due.is("the last below the one before", desk.setPoint(0, 255, 99), IMPOSSIBLE);
        due.is("equal to the next", desk.setPoint(0, 99, 100), 4);
        due.is("equal to the one before", desk.setPoint(0, 101, 100), 5);
        due.is("the first as high as the next", desk.setPoint(0, 0, 100), 5);
        due.is("the last as low as the one before", desk.setPoint(0, 255, 100), 5);
    }

    private static void setPointErrorsInOrder() {
        SeparationDesk desk = new SeparationDesk();
        for (int i = 1; i <= 6; i++) {
            due.is("point " + i, desk.setPoint(1, 30 * i, 30 * i), i + 2);
        }
        due.is("a ninth point", desk.setPoint(1, 200, 200), FULL);
        due.is("a ninth point that falls", desk.setPoint(1, 200, 100), IMPOSSIBLE);
        due.is("a ninth point that is wrong", desk.setPoint(1, 200, 256), INVALID);
        due.is("replacing is still possible", desk.setPoint(1, 180, 190), 8);
        due.is("replaced", desk.curve(1, 180), 190);
        due.is("no ninth point", desk.removePoint(1, 200), NOT_FOUND);
        due.is("room again", desk.removePoint(1, 60), 60);
        due.is("eighth point", desk.setPoint(1, 200, 200), 8);
    }

    private static void removePoint() {
        SeparationDesk desk = new SeparationDesk();
        desk.setPoint(2, 1, 40);
        desk.setPoint(2, 254, 50);
        desk.setPoint(2, 100, 45);
        due.is("its output", desk.removePoint(2, 100), 45);
        due.is("it is gone", desk.removePoint(2, 100), NOT_FOUND);
        due.is("no such input", desk.removePoint(2, 2), NOT_FOUND);
        due.is("another plate", desk.removePoint(3, 1), NOT_FOUND);
        due.is("greatest input", desk.removePoint(2, 254), 50);
        due.is("value then", desk.curve(2, 254), 40 + 215 * 253 / 254);
        due.is("least input", desk.removePoint(2, 1), 40);
        due.is("the straight curve again", desk.curve(2, 1), 1);
        int[] wrong = {LEAST, -1, 0, 255, 256, MOST};
        for (int input : wrong) {
            due.is("input " + input, desk.removePoint(2, input), INVALID);
        }
        due.is("plate -1", desk.removePoint(-1, 5), INVALID);
        due.is("plate 7", desk.removePoint(7, 5), INVALID);
    }

    private static void curve() {
        SeparationDesk desk = new SeparationDesk();
        desk.setPoint(4, 0, 10);
        desk.setPoint(4, 3, 11);
        desk.setPoint(4, 255, 11);
        int[] values = {10, 10, 10, 11, 11};
        for (int input = 0; input < values.length; input++) {
            due.is("curve(4, " + input + ")", desk.curve(4, input), values[input]);
        }
        due.is("flat end", desk.curve(4, 255), 11);
        due.is("input -1", desk.curve(4, -1), INVALID);
        due.is("input 256", desk.curve(4, 256), INVALID);
        due.is("plate -1", desk.curve(-1, 0), INVALID);
        due.is("plate 7", desk.curve(7, 0), INVALID);
        due.is("plate most", desk.curve(MOST, 0), INVALID);
    }

    private static void inverse() {
        SeparationDesk desk = new SeparationDesk();
        due.is("straight, least", desk.inverse(5, 0), 0);
        due.is("straight, greatest", desk.inverse(5, 255), 255);
        desk.setPoint(5, 0, 20);
        desk.setPoint(5, 100, 60);
        desk.setPoint(5, 200, 60);
        desk.setPoint(5, 255, 250);
        due.is("below the first value", desk.inverse(5, 19), 0);
        due.is("the first value", desk.inverse(5, 20), 0);
        due.is("above the first value", desk.inverse(5, 21), 3);
        due.is("a flat piece", desk.inverse(5, 60), 100);
        due.is("behind a flat piece", desk.inverse(5, 61), 201);
        due.is("the last value", desk.inverse(5, 250), 255);
        due.is("above the last value", desk.inverse(5, 251), NOT_FOUND);
        due.is("output -1", desk.inverse(5, -1), INVALID);
        due.is("output 256", desk.inverse(5, 256), INVALID);
        due.is("plate -1", desk.inverse(-1, 0), INVALID);
        due.is("plate 7", desk.inverse(7, 0), INVALID);
    }

    private static void simplify() {
        SeparationDesk desk = new SeparationDesk();
        desk.setPoint(0, 85, 10);
        desk.setPoint(0, 100, 200);
        // from (85, 10) to (170, ..) the old curve rises at once, the new one slowly
        int atSecond = 200 + 55 * 70 / 155;
        due.is("value at 170 before", desk.curve(0, 170), atSecond);
        int straightAt100 = 10 + (atSecond - 10) * 15 / 85;
        due.is("greatest difference", desk.simplify(0), 200 - straightAt100);
        due.is("value at 100 then", desk.curve(0, 100), straightAt100);
        due.is("value at 0", desk.curve(0, 0), 0);
        due.is("value at 85", desk.curve(0, 85), 10);
        due.is("value at 170", desk.curve(0, 170), atSecond);
        due.is("value at 255", desk.curve(0, 255), 255);
        due.is("four points", desk.setPoint(0, 85, 10), 4);
        due.is("point at 170", desk.removePoint(0, 170), atSecond);
        due.is("another plate", desk.setPoint(1, 85, 85), 3);
        due.is("plate -1", desk.simplify(-1), INVALID);
        due.is("plate 7", desk.simplify(7), INVALID);
    }

    private static void simplifyIsAChange() {
        SeparationDesk desk = new SeparationDesk();
        due.is("a straight curve", desk.simplify(6), 0);
        due.is("has four points", desk.setPoint(6, 255, 255), 4);
        desk.undo();
        due.is("undone", desk.undo(), 0);
        due.is("two points again", desk.setPoint(6, 255, 255), 2);
        desk.setPoint(6, 255, 100);
        desk.setPoint(6, 0, 100);
        due.is("a flat curve", desk.simplify(6), 0);
        due.is("stays flat", desk.curve(6, 30), 100);
        for (int i = 1; i <= 3; i++) {
            desk.setPoint(6, i, 100);
        }
        desk.setPoint(6, 4, 100);
        due.is("eight points become four", desk.simplify(6), 0);
        due.is("four points then", desk.setPoint(6, 0, 100), 4);
    }
}
