import java.util.ArrayList;
import java.util.Collections;
import java.util.LinkedHashMap;
import java.util.List;
import java.util.Map;
import java.util.function.Consumer;
import java.util.function.ToIntFunction;

/** The section "Changes and errors", sentence by sentence; Portrait tells whether two runs leave the same state. */
public final class ChangeEdgesTest {
    private static final int INVALID = SeparationDesk.INVALID_ARGUMENT;
    private static final int IMPOSSIBLE = SeparationDesk.NOT_POSSIBLE;
    private static final int FULL = SeparationDesk.LIMIT_REACHED;
    private static final int NOT_FOUND = SeparationDesk.NOT_FOUND;
    private static final Due due = new Due();

    public static void main(String[] args) {
        errorsChangeNothing();
        questionsChangeNothing();
        everyChangeIsUndone();
        changesThatSetWhatStands();
        boxAndInkAreNoChanges();
        boxAndInkStayWhenUndone();
        nothingToUndo();
        everyLengthOfTheHistory();
        oldestIsDropped();
        errorsDropNothing();
        changesAfterUndo();
        undoIsNoChange();
        historyOfAnotherDesk();
        invalidComesFirst();
        notPossibleComesBeforeTheLimit();
        limitComesNext();
        invalidComesBeforeNotFound();
        due.end();
    }

    /** Groups 1 and 2, rects 3 and 5, a spot 4, a full curve 1, and settings of its own; five changes are kept. */
    private static void build(SeparationDesk desk) {
        desk.setSize(9, 7);
        desk.addGroup(0, 60, 1, 2);
        desk.addGroup(1, 70, -2, 1);
        desk.setBox(1, 1, 5, 4);
        desk.setInk(40, 90, 140);
        desk.addRect(0);
        desk.addSpot(2, 1, 180);
        desk.setInk(200, 100, 20);
        desk.addRect(1);
        for (int i = 1; i <= 6; i++) {
            desk.setPoint(1, 30 * i, 35 * i);
        }
        desk.setPoint(2, 255, 200);
        desk.setPoint(4, 100, 50);
        desk.set(0, 75);
        desk.set(1, 20);
        desk.set(2, 300);
        desk.setKnockout(2, 0);
        desk.setBox(2, 0, 3, 3);
    }

    /** 23 nodes: four groups each below the one before, and rects. */
    private static void buildFull(SeparationDesk desk) {
        desk.setBox(0, 0, 4, 4);
        for (int parent = 0; parent < 4; parent++) {
            desk.addGroup(parent, 90, 1, 0);
        }
        for (int i = 5; i <= 23; i++) {
            desk.addRect(i % 4);
        }
    }

    private static void buildNothing(SeparationDesk desk) {
        desk.setInk(1, 2, 3);
    }

    private static void buildTwoChanges(SeparationDesk desk) {
        desk.addGroup(0, 50, 0, 0);
        desk.addRect(1);
    }

    private static List<Consumer<SeparationDesk>> builds() {
        return List.of(ChangeEdgesTest::build, ChangeEdgesTest::buildFull, ChangeEdgesTest::buildNothing,
            ChangeEdgesTest::buildTwoChanges);
    }

    /** Calls of every method that are refused on any desk. */
    private static Map<String, ToIntFunction<SeparationDesk>> refusedCalls() {
        Map<String, ToIntFunction<SeparationDesk>> calls = new LinkedHashMap<>();
        calls.put("setSize(0, 5)", d -> d.setSize(0, 5));
        calls.put("setSize(5, 13)", d -> d.setSize(5, 13));
        calls.put("addGroup(0, 101, 1, 1)", d -> d.addGroup(0, 101, 1, 1));
        calls.put("addGroup(0, 50, 1, 13)", d -> d.addGroup(0, 50, 1, 13));
        calls.put("addGroup(24, 50, 1, 1)", d -> d.addGroup(24, 50, 1, 1));
        calls.put("addRect(24)", d -> d.addRect(24));
        calls.put("addSpot(0, 3, 1)", d -> d.addSpot(0, 3, 1));
        calls.put("addSpot(0, 0, 256)", d -> d.addSpot(0, 0, 256));
        calls.put("addSpot(-1, 0, 1)", d -> d.addSpot(-1, 0, 1));
        calls.put("setBox(13, 3, 3, 3)", d -> d.setBox(13, 3, 3, 3));
        calls.put("setBox(3, 3, 3, 0)", d -> d.setBox(3, 3, 3, 0));
        calls.put("setInk(256, 5, 5)", d -> d.setInk(256, 5, 5));
        calls.put("setInk(5, 5, -1)", d -> d.setInk(5, 5, -1));
        calls.put("remove(0)", d -> d.remove(0));
        calls.put("remove(24)", d -> d.remove(24));
        calls.put("move(0, 0)", d -> d.move(0, 0));
        calls.put("move(0, 1)", d -> d.move(0, 1));
        calls.put("move(24, 0)", d -> d.move(24, 0));
        calls.put("move(1, 24)", d -> d.move(1, 24));
        calls.put("set(3, 5)", d -> d.set(3, 5));
        calls.put("set(0, 101)", d -> d.set(0, 101));
        calls.put("set(1, -1)", d -> d.set(1, -1));
        calls.put("set(2, 1786)", d -> d.set(2, 1786));
        calls.put("setKnockout(3, 0)", d -> d.setKnockout(3, 0));
        calls.put("setKnockout(0, 2)", d -> d.setKnockout(0, 2));
        calls.put("setPoint(7, 5, 5)", d -> d.setPoint(7, 5, 5));
        calls.put("setPoint(0, 256, 255)", d -> d.setPoint(0, 256, 255));
        calls.put("setPoint(0, 5, 256)", d -> d.setPoint(0, 5, 256));
        calls.put("removePoint(7, 5)", d -> d.removePoint(7, 5));
        calls.put("removePoint(0, 0)", d -> d.removePoint(0, 0));
        calls.put("removePoint(0, 255)", d -> d.removePoint(0, 255));
        calls.put("removePoint(0, 7)", d -> d.removePoint(0, 7));
        calls.put("simplify(7)", d -> d.simplify(7));
        calls.put("simplify(-1)", d -> d.simplify(-1));
        return calls;
    }

    /** Calls that are refused on the desk of build, by what stands there. */
    private static Map<String, ToIntFunction<SeparationDesk>> refusedOnBuild() {
        Map<String, ToIntFunction<SeparationDesk>> calls = new LinkedHashMap<>();
        calls.put("addGroup(3, 50, 1, 1)", d -> d.addGroup(3, 50, 1, 1));
        calls.put("addRect(4)", d -> d.addRect(4));
        calls.put("addSpot(5, 0, 1)", d -> d.addSpot(5, 0, 1));
        calls.put("remove(6)", d -> d.remove(6));
        calls.put("move(1, 2)", d -> d.move(1, 2));
        calls.put("move(1, 1)", d -> d.move(1, 1));
        calls.put("move(2, 3)", d -> d.move(2, 3));
        calls.put("setPoint(2, 0, 201)", d -> d.setPoint(2, 0, 201));
        calls.put("setPoint(1, 30, 71)", d -> d.setPoint(1, 30, 71));
        calls.put("setPoint(1, 200, 220)", d -> d.setPoint(1, 200, 220));
        calls.put("removePoint(1, 31)", d -> d.removePoint(1, 31));
        return calls;
    }

    /** Calls that are refused on the desk of buildFull, by what stands there. */
    private static Map<String, ToIntFunction<SeparationDesk>> refusedOnFull() {
        Map<String, ToIntFunction<SeparationDesk>> calls = new LinkedHashMap<>();
        calls.put("addGroup(0, 50, 1, 1)", d -> d.addGroup(0, 50, 1, 1));
        calls.put("addRect(0)", d -> d.addRect(0));
        calls.put("addSpot(0, 0, 1)", d -> d.addSpot(0, 0, 1));
        calls.put("addRect(4)", d -> d.addRect(4));
        calls.put("move(5, 4)", d -> d.move(5, 4));
        calls.put("move(5, 6)", d -> d.move(5, 6));
        return calls;
    }

    /** "A call that returns an error changes nothing.": no part of the page, and nothing in its history. */
    private static void errorsChangeNothing() {
        for (Consumer<SeparationDesk> build : builds()) {
            changeNothing(build, refusedCalls(), true);
        }
        changeNothing(ChangeEdgesTest::build, refusedOnBuild(), true);
        changeNothing(ChangeEdgesTest::buildFull, refusedOnFull(), true);
        changeNothing(ChangeEdgesTest::buildNothing, Map.of("undo()", d -> d.undo()), true);
    }

    private static void changeNothing(
            Consumer<SeparationDesk> build, Map<String, ToIntFunction<SeparationDesk>> calls, boolean refused) {
        List<Integer> before = Portrait.of(build);
        for (Map.Entry<String, ToIntFunction<SeparationDesk>> call : calls.entrySet()) {
            SeparationDesk desk = new SeparationDesk();
            build.accept(desk);
            int got = call.getValue().applyAsInt(desk);
            due.is(call.getKey() + " is refused", got < 0 ? 1 : 0, refused ? 1 : 0);
            List<Integer> after = Portrait.of(build.andThen(d -> call.getValue().applyAsInt(d)));
            due.holds("all as before " + call.getKey(), before.equals(after));
        }
    }

    /** Only the methods that change nodes, size, settings, knockouts or curves are changes. */
    private static void questionsChangeNothing() {
        Map<String, ToIntFunction<SeparationDesk>> calls = new LinkedHashMap<>();
        calls.put("nodeInfo", d -> d.nodeInfo(0, 4));
        calls.put("nodeCount", d -> d.nodeCount());
        calls.put("curve", d -> d.curve(1, 100));
        calls.put("inverse", d -> d.inverse(1, 100));
        calls.put("rendered", d -> d.rendered(3, 3, 1));
        calls.put("ink", d -> d.ink(3, 3, 7));
        calls.put("inkOf", d -> d.inkOf(65793, 7));
        calls.put("touchedBy", d -> d.touchedBy(3, 3));
        calls.put("coverage", d -> d.coverage(7));
        calls.put("plateAt", d -> d.plateAt(3));
        calls.put("greatestSum", d -> d.greatestSum());
        calls.put("limitedPixels", d -> d.limitedPixels());
        calls.put("inkCount", d -> d.inkCount());
        calls.put("inkAt", d -> d.inkAt(0, 8));
        calls.put("neededLimit", d -> d.neededLimit());
        calls.put("thriftiestAmount", d -> d.thriftiestAmount());
        calls.put("disorderedPixels", d -> d.disorderedPixels());
        changeNothing(ChangeEdgesTest::buildFull, calls, false);
        changeNothing(ChangeEdgesTest::build, calls, false);
    }

    /** A call of each method that is a change, possible on the desk of build. */
    private static Map<String, ToIntFunction<SeparationDesk>> changes() {
        Map<String, ToIntFunction<SeparationDesk>> calls = new LinkedHashMap<>();
        calls.put("setSize", d -> d.setSize(4, 12));
        calls.put("addGroup", d -> d.addGroup(1, 30, 5, -5));
        calls.put("addRect", d -> d.addRect(2));
        calls.put("addSpot", d -> d.addSpot(2, 0, 99));
        calls.put("remove a leaf", d -> d.remove(3));
        calls.put("remove a group", d -> d.remove(1));
        calls.put("move", d -> d.move(2, 0));
        calls.put("move to the last place", d -> d.move(1, 0));
        calls.put("set A", d -> d.set(0, 5));
        calls.put("set S", d -> d.set(1, 6));
        calls.put("set L", d -> d.set(2, 7));
        calls.put("setKnockout on", d -> d.setKnockout(2, 1));
        calls.put("setKnockout off", d -> d.setKnockout(0, 0));
        calls.put("setPoint, a new one", d -> d.setPoint(3, 77, 78));
        calls.put("setPoint, one that stands", d -> d.setPoint(1, 60, 71));
        calls.put("setPoint, the first", d -> d.setPoint(2, 0, 9));
        calls.put("setPoint, the last", d -> d.setPoint(2, 255, 201));
        calls.put("removePoint", d -> d.removePoint(1, 90));
        calls.put("simplify", d -> d.simplify(1));
        return calls;
    }

    /** "undoing takes the latest state from the history and restores it (nodes, size, settings, knockouts and curves)" */
    private static void everyChangeIsUndone() {
        List<Integer> before = Portrait.withoutHistory(ChangeEdgesTest::build);
        for (Map.Entry<String, ToIntFunction<SeparationDesk>> change : changes().entrySet()) {
            Consumer<SeparationDesk> changed = d -> {
                build(d);
                change.getValue().applyAsInt(d);
            };
            due.holds(change.getKey() + " changes something",
                !before.equals(Portrait.withoutHistory(changed)));
            due.holds(change.getKey() + " is undone",
                before.equals(Portrait.withoutHistory(changed.andThen(d -> d.undo()))));
            SeparationDesk desk = new SeparationDesk();
            build(desk);
            desk.undo();
            due.holds(change.getKey() + " is answered", change.getValue().applyAsInt(desk) >= 0);
            due.is("it is one change beside four", desk.undo(), 4);
        }
    }

    /** "are changes, if they return no error": also if they set what stands already. */
    private static void changesThatSetWhatStands() {
        Map<String, ToIntFunction<SeparationDesk>> calls = new LinkedHashMap<>();
        calls.put("setSize", d -> d.setSize(9, 7));
        calls.put("set A", d -> d.set(0, 75));
        calls.put("set S", d -> d.set(1, 20));
        calls.put("set L", d -> d.set(2, 300));
        calls.put("setKnockout", d -> d.setKnockout(2, 1));
        calls.put("setPoint", d -> d.setPoint(1, 30, 35));
        calls.put("move", d -> d.move(3, 0));
        calls.put("simplify", d -> d.simplify(0));
        for (Map.Entry<String, ToIntFunction<SeparationDesk>> call : calls.entrySet()) {
            SeparationDesk desk = new SeparationDesk();
            build(desk);
            due.is("four left before " + call.getKey(), desk.undo(), 4);
            due.holds(call.getKey() + " is answered", call.getValue().applyAsInt(desk) >= 0);
            due.is("one more after " + call.getKey(), desk.undo(), 4);
            due.is("and no second one", desk.undo(), 3);
        }
    }

    /** "(This is no change.)" */
    private static void boxAndInkAreNoChanges() {
        for (Consumer<SeparationDesk> build : builds()) {
            SeparationDesk desk = new SeparationDesk();
            build.accept(desk);
            desk.setBox(5, 5, 5, 5);
            desk.setInk(5, 5, 5);
            SeparationDesk other = new SeparationDesk();
            build.accept(other);
            for (int i = 0; i < 6; i++) {
                due.is("undo", desk.undo(), other.undo());
            }
        }
        SeparationDesk desk = new SeparationDesk();
        desk.setBox(1, 1, 1, 1);
        desk.setInk(1, 1, 1);
        due.is("nothing to undo", desk.undo(), IMPOSSIBLE);
    }

    /** "restores it (nodes, size, settings, knockouts and curves)": not the rectangle and the color for new nodes. */
    private static void boxAndInkStayWhenUndone() {
        SeparationDesk desk = new SeparationDesk();
        desk.addGroup(0, 100, 0, 0);
        desk.setBox(3, 2, 2, 2);
        desk.setInk(10, 20, 30);
        desk.set(0, 1);
        desk.setBox(4, 4, 1, 1);
        desk.setInk(40, 50, 60);
        due.is("undo the setting", desk.undo(), 1);
        due.is("undo the group", desk.undo(), 0);
        due.is("a rect", desk.addRect(0), 1);
        due.is("with the last box", desk.touchedBy(4, 4), 1);
        due.is("not the one before", desk.touchedBy(3, 2), NOT_FOUND);
        due.is("with the last red", desk.rendered(4, 4, 0), 40);
        due.is("with the last green", desk.rendered(4, 4, 1), 50);
        due.is("with the last blue", desk.rendered(4, 4, 2), 60);
        due.is("nodes keep theirs", desk.setBox(0, 0, 1, 1), 1);
        due.is("whatever is set later", desk.touchedBy(4, 4), 1);
    }

    /** "NOT_POSSIBLE if there is none." */
    private static void nothingToUndo() {
        SeparationDesk desk = new SeparationDesk();
        due.is("a new object", desk.undo(), IMPOSSIBLE);
        due.is("asked again", desk.undo(), IMPOSSIBLE);
        desk.setSize(0, 0);
        desk.remove(0);
        desk.removePoint(0, 5);
        due.is("after errors", desk.undo(), IMPOSSIBLE);
        desk.setSize(1, 1);
        due.is("after a change", desk.undo(), 0);
        due.is("after its undo", desk.undo(), IMPOSSIBLE);
        due.is("the page is new", desk.setSize(1, 1), 806);
        due.is("which is a change again", desk.undo(), 0);
    }

    /** "A history of at most 5 states is kept": after 1 to 12 changes. */
    private static void everyLengthOfTheHistory() {
        for (int changes = 1; changes <= 12; changes++) {
            SeparationDesk desk = new SeparationDesk();
            for (int width = 1; width <= changes; width++) {
                desk.setSize(width, 1);
            }
            int kept = Math.min(5, changes);
            for (int left = kept - 1; left >= 0; left--) {
                due.is(changes + " changes, undo", desk.undo(), left);
                int width = changes - (kept - left);
                due.is("pixels then", desk.inkAt(0, 8), width == 0 ? 48 : width);
            }
            due.is(changes + " changes, one undo too many", desk.undo(), IMPOSSIBLE);
            int width = changes - kept;
            due.is("the oldest state stays", desk.inkAt(0, 8), width == 0 ? 48 : width);
        }
    }

    /** "if there are 5 already, the oldest one is dropped": with all that it holds, and each of the five stands. */
    private static void oldestIsDropped() {
        List<ToIntFunction<SeparationDesk>> calls = new ArrayList<>(changes().values());
        for (int round = 0; round < 2; round++) {
            for (int end = 1; end <= calls.size(); end++) {
                compareStates(calls, end);
            }
            Collections.reverse(calls);
        }
    }

    private static void compareStates(List<ToIntFunction<SeparationDesk>> calls, int end) {
        for (int undos = 0; undos <= 5; undos++) {
            int last = undos;
            SeparationDesk counted = new SeparationDesk();
            int changes = 0;
            for (int i = 0; i < end; i++) {
                changes += calls.get(i).applyAsInt(counted) >= 0 ? 1 : 0;
            }
            int back = Math.min(last, changes);
            Consumer<SeparationDesk> undone = d -> {
                applyChanges(d, calls, end, Integer.MAX_VALUE);
                for (int i = 0; i < last; i++) {
                    d.undo();
                }
            };
            int made = changes - back;
            Consumer<SeparationDesk> direct = d -> applyChanges(d, calls, end, made);
            due.holds(end + " calls and " + undos + " undone, the state",
                Portrait.withoutHistory(undone).equals(Portrait.withoutHistory(direct)));
        }
    }

    /** Makes the calls up to end, but at most so many that are answered. */
    private static void applyChanges(SeparationDesk desk, List<ToIntFunction<SeparationDesk>> calls, int end, int most) {
        int made = 0;
        for (int i = 0; i < end && made < most; i++) {
            made += calls.get(i).applyAsInt(desk) >= 0 ? 1 : 0;
        }
    }

    /** A full history stays as it is when a call is refused. */
    private static void errorsDropNothing() {
        SeparationDesk desk = new SeparationDesk();
        for (int width = 1; width <= 5; width++) {
            desk.setSize(width, 1);
        }
        for (ToIntFunction<SeparationDesk> call : refusedCalls().values()) {
            due.holds("a refused call", call.applyAsInt(desk) < 0);
        }
        for (int left = 4; left >= 0; left--) {
            due.is("undo", desk.undo(), left);
        }
        due.is("back at the new page", desk.setSize(1, 1), 806);
    }

    /** "undoing takes the latest state from the history": changes go on from there. */
    private static void changesAfterUndo() {
        SeparationDesk desk = new SeparationDesk();
        for (int width = 1; width <= 7; width++) {
            desk.setSize(width, 1);
        }
        due.is("7 undone", desk.undo(), 4);
        due.is("6 undone", desk.undo(), 3);
        due.is("9 after 5", desk.setSize(9, 1), 501);
        due.is("10 after 9", desk.setSize(10, 1), 901);
        due.is("11 after 10", desk.setSize(11, 1), 1001);
        int[] widths = {10, 9, 5, 4, 3};
        for (int i = 0; i < 5; i++) {
            due.is("undo " + i, desk.undo(), 4 - i);
            due.is("width", desk.inkAt(0, 8), widths[i]);
        }
        due.is("nothing left", desk.undo(), IMPOSSIBLE);
    }

    /** "Undoes the latest change that has not been undone.": an undo can't be undone. */
    private static void undoIsNoChange() {
        SeparationDesk desk = new SeparationDesk();
        desk.set(0, 10);
        desk.set(0, 20);
        due.is("20", desk.undo(), 1);
        due.is("10", desk.undo(), 0);
        due.is("no more", desk.undo(), IMPOSSIBLE);
        due.is("A", desk.set(0, 30), 50);
        due.is("30", desk.undo(), 0);
        due.is("A once more", desk.set(0, 30), 50);
    }

    /** An object's history is its own, and so are its nodes and curves. */
    private static void historyOfAnotherDesk() {
        SeparationDesk one = new SeparationDesk();
        SeparationDesk other = new SeparationDesk();
        build(one);
        due.is("nothing to undo on the other", other.undo(), IMPOSSIBLE);
        due.is("its nodes", other.nodeCount(), 1);
        due.is("its curve", other.curve(1, 30), 30);
        due.is("its box", other.addRect(0), 1);
        due.is("is the initial one", other.touchedBy(0, 0), 1);
        due.is("in black", other.rendered(0, 0, 0), 0);
        due.is("five on the one", one.undo(), 4);
    }

    /** "INVALID_ARGUMENT is returned rather than NOT_POSSIBLE" */
    private static void invalidComesFirst() {
        SeparationDesk desk = new SeparationDesk();
        build(desk);
        due.is("a wrong opacity below a rect", desk.addGroup(3, 101, 0, 0), INVALID);
        due.is("a wrong dx below a rect", desk.addGroup(3, 1, -13, 0), INVALID);
        due.is("a wrong dy below a rect", desk.addGroup(3, 1, 0, 13), INVALID);
        due.is("a wrong plate below a rect", desk.addSpot(3, 3, 0), INVALID);
        due.is("a wrong tint below a spot", desk.addSpot(4, 0, 256), INVALID);
        due.is("the root below no node", desk.move(0, 6), INVALID);
        due.is("no node below a rect", desk.move(6, 3), INVALID);
        due.is("no node below no node", desk.move(6, 6), INVALID);
        due.is("a wrong plate and falling outputs", desk.setPoint(7, 100, 0), INVALID);
        due.is("a wrong input and falling outputs", desk.setPoint(1, 256, 0), INVALID);
        due.is("a wrong input before all", desk.setPoint(1, -1, 255), INVALID);
        due.is("a wrong output", desk.setPoint(1, 100, -1), INVALID);
        desk = new SeparationDesk();
        buildFull(desk);
        due.is("a wrong opacity at depth 5, no number", desk.addGroup(4, -1, 0, 0), INVALID);
        due.is("a wrong tint at depth 5, no number", desk.addSpot(4, 0, -1), INVALID);
        due.is("a wrong opacity, no number", desk.addGroup(0, 101, 0, 0), INVALID);
        due.is("a wrong plate, no number", desk.addSpot(0, -1, 0), INVALID);
        due.is("no such parent, no number", desk.addRect(24), INVALID);
        due.is("no such parent, no number for a group", desk.addGroup(-1, 0, 0, 0), INVALID);
        due.is("no such parent, no number for a spot", desk.addSpot(24, 0, 0), INVALID);
    }

    /** "NOT_POSSIBLE rather than LIMIT_REACHED" */
    private static void notPossibleComesBeforeTheLimit() {
        SeparationDesk desk = new SeparationDesk();
        buildFull(desk);
        due.is("a group below a rect", desk.addGroup(5, 0, 0, 0), IMPOSSIBLE);
        due.is("a rect below a rect", desk.addRect(5), IMPOSSIBLE);
        due.is("a spot below a rect", desk.addSpot(5, 0, 0), IMPOSSIBLE);
        due.is("a group at depth 5", desk.addGroup(4, 0, 0, 0), IMPOSSIBLE);
        due.is("a rect at depth 5", desk.addRect(4), IMPOSSIBLE);
        due.is("a spot at depth 5", desk.addSpot(4, 0, 0), IMPOSSIBLE);
        desk = new SeparationDesk();
        build(desk);
        due.is("a ninth point too low", desk.setPoint(1, 31, 34), IMPOSSIBLE);
        due.is("a ninth point too high", desk.setPoint(1, 29, 36), IMPOSSIBLE);
    }

    /** "A fixed limit has been reached.": with no other error. */
    private static void limitComesNext() {
        SeparationDesk desk = new SeparationDesk();
        buildFull(desk);
        for (int parent = 0; parent < 4; parent++) {
            due.is("a group below " + parent, desk.addGroup(parent, 0, 0, 0), FULL);
            due.is("a rect below " + parent, desk.addRect(parent), FULL);
            due.is("a spot below " + parent, desk.addSpot(parent, 0, 0), FULL);
        }
        desk = new SeparationDesk();
        build(desk);
        due.is("a ninth point", desk.setPoint(1, 31, 36), FULL);
        due.is("a ninth point as low as may be", desk.setPoint(1, 31, 35), FULL);
        due.is("a ninth point as high as may be", desk.setPoint(1, 29, 35), FULL);
        due.is("one that stands", desk.setPoint(1, 30, 35), 8);
    }

    /** INVALID_ARGUMENT comes before NOT_FOUND as before all others. */
    private static void invalidComesBeforeNotFound() {
        SeparationDesk desk = new SeparationDesk();
        build(desk);
        due.is("removePoint of no plate", desk.removePoint(7, 31), INVALID);
        due.is("removePoint of no input", desk.removePoint(1, 256), INVALID);
        due.is("removePoint of no point", desk.removePoint(1, 31), NOT_FOUND);
        due.is("inverse of no plate", desk.inverse(7, 255), INVALID);
        due.is("inverse of no output", desk.inverse(2, 256), INVALID);
        due.is("inverse that there is not", desk.inverse(2, 255), NOT_FOUND);
        due.is("touch off the page", desk.touchedBy(9, 6), INVALID);
        due.is("no touch", desk.touchedBy(8, 6), NOT_FOUND);
        due.is("no value of an ink behind the last", desk.inkAt(63, 9), INVALID);
        due.is("an ink behind the last", desk.inkAt(63, 8), NOT_FOUND);
        due.is("no property of no node", desk.nodeInfo(24, 6), INVALID);
    }
}
