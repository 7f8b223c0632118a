import java.util.ArrayList;
import java.util.List;
import java.util.function.Consumer;

/**
 * All that can be asked of the desk that a run of calls leaves, and of each state in its history: two runs
 * leave the same state if their portraits are equal. Each part is asked of a desk of its own on which
 * the run is played again, since nothing is promised about a desk after its 512th call.
 */
final class Portrait {
    /** One more than the history holds, so that a state too many would show. */
    private static final int UNDOS = 6;

    private final Consumer<SeparationDesk> run;
    private final List<Integer> answers = new ArrayList<>();

    private Portrait(Consumer<SeparationDesk> run) {
        this.run = run;
    }

    static List<Integer> of(Consumer<SeparationDesk> run) {
        Portrait portrait = new Portrait(run);
        for (int undos = 0; undos <= UNDOS; undos++) {
            portrait.askState(undos);
        }
        return portrait.answers;
    }

    /** The portrait of the present state alone. */
    static List<Integer> withoutHistory(Consumer<SeparationDesk> run) {
        Portrait portrait = new Portrait(run);
        portrait.askState(0);
        // the first answer tells how much can be undone
        return portrait.answers.subList(1, portrait.answers.size());
    }

    private SeparationDesk desk(int undos) {
        SeparationDesk desk = new SeparationDesk();
        run.accept(desk);
        for (int i = 0; i < undos; i++) {
            desk.undo();
        }
        return desk;
    }

    private void askState(int undos) {
        answers.add(desk(undos).undo());
        askNodes(desk(undos));
        askSettings(desk(undos));
        for (int plate = 0; plate < 7; plate++) {
            askCurve(desk(undos), plate);
        }
        for (int y = 0; y < 12; y++) {
            askRow(desk(undos), y);
        }
        askBoxAndInk(desk(undos));
    }

    private void askNodes(SeparationDesk desk) {
        answers.add(desk.nodeCount());
        for (int node = 0; node < 24; node++) {
            for (int what = 0; what < 6; what++) {
                answers.add(desk.nodeInfo(node, what));
            }
        }
    }

    private void askSettings(SeparationDesk desk) {
        for (int plate = 0; plate <= 7; plate++) {
            answers.add(desk.coverage(plate));
        }
        answers.add(desk.setSize(1, 1));
        for (int i = 0; i < 3; i++) {
            answers.add(desk.set(i, 0));
            answers.add(desk.setKnockout(i, 0));
        }
    }

    private void askCurve(SeparationDesk desk, int plate) {
        for (int input = 0; input < 256; input++) {
            answers.add(desk.curve(plate, input));
        }
        // an inner point that lies on a straight piece shows only in the number of points
        answers.add(desk.setPoint(plate, 255, 255));
    }

    private void askRow(SeparationDesk desk, int y) {
        desk.setSize(12, 12);
        for (int x = 0; x < 12; x++) {
            answers.add(desk.touchedBy(x, y));
            for (int what = 0; what < 6; what++) {
                answers.add(desk.rendered(x, y, what));
            }
        }
    }

    private void askBoxAndInk(SeparationDesk desk) {
        desk.setSize(12, 12);
        // a rect finds no number if all 23 are taken
        desk.remove(23);
        answers.add(desk.addRect(0));
        for (int pixel = 0; pixel < 144; pixel++) {
            answers.add(desk.touchedBy(pixel % 12, pixel / 12));
        }
        for (int plate = 0; plate < 7; plate++) {
            answers.add(desk.coverage(plate));
        }
    }
}
