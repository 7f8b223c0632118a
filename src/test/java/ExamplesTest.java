/** The five examples that the document gives under "Changes and errors". */
public final class ExamplesTest {
    private static final Due due = new Due();

    public static void main(String[] args) {
        rectIsRenderedAndSeparated();
        groupWithOpacityAndSpot();
        limitOfInks();
        curveAndItsInverse();
        errors();
        due.end();
    }

    private static void rectIsRenderedAndSeparated() {
        SeparationDesk desk = new SeparationDesk();
        due.is("1 setInk", desk.setInk(100, 150, 200), 450);
        due.is("1 setBox", desk.setBox(0, 0, 2, 1), 2);
        due.is("1 addRect", desk.addRect(0), 1);
        due.is("1 rendered(1, 0, 0)", desk.rendered(1, 0, 0), 100);
        due.is("1 ink(1, 0, 3)", desk.ink(1, 0, 3), 7);
        due.is("1 ink(1, 0, 0)", desk.ink(1, 0, 0), 148);
        due.is("1 ink(2, 0, 7)", desk.ink(2, 0, 7), 0);
        due.is("1 inkCount", desk.inkCount(), 2);
    }

    private static void groupWithOpacityAndSpot() {
        SeparationDesk desk = new SeparationDesk();
        due.is("2 addGroup", desk.addGroup(0, 50, 1, 0), 1);
        due.is("2 setBox", desk.setBox(0, 0, 1, 1), 1);
        due.is("2 addRect", desk.addRect(1), 2);
        due.is("2 rendered(1, 0, 0)", desk.rendered(1, 0, 0), 127);
        due.is("2 rendered(0, 0, 0)", desk.rendered(0, 0, 0), 255);
        due.is("2 addSpot", desk.addSpot(0, 2, 80), 3);
        due.is("2 rendered(0, 0, 5)", desk.rendered(0, 0, 5), 80);
        due.is("2 touchedBy(0, 0)", desk.touchedBy(0, 0), 3);
    }

    private static void limitOfInks() {
        SeparationDesk desk = new SeparationDesk();
        due.is("3 set(2, 100)", desk.set(2, 100), 700);
        due.is("3 inkOf(0, 7)", desk.inkOf(0, 7), 100);
        due.is("3 inkOf(0, 3)", desk.inkOf(0, 3), 100);
        due.is("3 inkOf(255, 7)", desk.inkOf(255, 7), 100);
        due.is("3 inkOf(255, 1)", desk.inkOf(255, 1), 50);
    }

    private static void curveAndItsInverse() {
        SeparationDesk desk = new SeparationDesk();
        due.is("4 setPoint", desk.setPoint(0, 128, 64), 3);
        due.is("4 curve(0, 64)", desk.curve(0, 64), 32);
        due.is("4 inverse(0, 64)", desk.inverse(0, 64), 128);
        due.is("4 inverse(0, 65)", desk.inverse(0, 65), 129);
        due.is("4 setPoint falling", desk.setPoint(0, 200, 50), SeparationDesk.NOT_POSSIBLE);
        due.is("4 undo", desk.undo(), 0);
        due.is("4 curve(0, 64) undone", desk.curve(0, 64), 64);
    }

    private static void errors() {
        SeparationDesk desk = new SeparationDesk();
        due.is("5 remove(0)", desk.remove(0), SeparationDesk.NOT_POSSIBLE);
        due.is("5 addRect(5)", desk.addRect(5), SeparationDesk.INVALID_ARGUMENT);
        due.is("5 inkAt(3, 0)", desk.inkAt(3, 0), SeparationDesk.NOT_FOUND);
        due.is("5 undo", desk.undo(), SeparationDesk.NOT_POSSIBLE);
    }
}
