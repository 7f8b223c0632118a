/** Promises 23 to 32: the page as a whole, searches, and undo. */
public final class PageTest {
    private static final int INVALID = SeparationDesk.INVALID_ARGUMENT;
    private static final int IMPOSSIBLE = SeparationDesk.NOT_POSSIBLE;
    private static final int NOT_FOUND = SeparationDesk.NOT_FOUND;
    private static final int LEAST = Integer.MIN_VALUE;
    private static final int MOST = Integer.MAX_VALUE;
    private static final Due due = new Due();

    public static void main(String[] args) {
        coverage();
        coverageOfAFullPage();
        plateAt();
        plateAtOfEqualPlates();
        greatestSum();
        limitedPixels();
        inkCount();
        inkAtByNumberOfPixels();
        inkAtBySumThenPlates();
        inkAtRanges();
        neededLimit();
        thriftiestAmount();
        thriftiestAmountOfOne();
        disorderedPixels();
        lastPixelCountsAndNoneBeyond();
        undoRestores();
        undoRestoresNumbersUsedAgain();
        undoRestoresWhatMoveChanged();
        undoDropsTheOldest();
        undoAfterUndo();
        errorsAreNoChanges();
        answersAreNoChanges();
        due.end();
    }

    /** Pixels (0, 0) and (1, 0) have 170, 120, 70, 30, and (1, 0) to (3, 0) a tint of 33 on plate 5. */
    private static SeparationDesk paintedDesk() {
        SeparationDesk desk = new SeparationDesk();
        desk.setBox(0, 0, 2, 1);
        desk.setInk(55, 105, 155);
        desk.addRect(0);
        desk.setBox(1, 0, 3, 1);
        desk.setKnockout(1, 0);
        desk.addSpot(0, 1, 33);
        return desk;
    }

    private static void coverage() {
        SeparationDesk desk = paintedDesk();
        int[] want = {340, 240, 140, 60, 0, 99, 0, 879};
        for (int plate = 0; plate <= 7; plate++) {
            due.is("coverage(" + plate + ")", desk.coverage(plate), want[plate]);
        }
        desk.setSize(1, 1);
        due.is("a smaller page", desk.coverage(7), 390);
        due.is("plate -1", desk.coverage(-1), INVALID);
        due.is("plate 8", desk.coverage(8), INVALID);
        due.is("plate most", desk.coverage(MOST), INVALID);
    }

    private static void coverageOfAFullPage() {
        SeparationDesk desk = new SeparationDesk();
        desk.setSize(12, 12);
        for (int plate = 0; plate < 7; plate++) {
            desk.setPoint(plate, 255, 255);
            desk.setPoint(plate, 0, 255);
        }
        desk.set(2, 1785);
        due.is("each plate is full", desk.coverage(6), 144 * 255);
        due.is("all plates are full", desk.coverage(7), 144 * 1785);
        due.is("greatest sum of all", desk.greatestSum(), 1785);
        due.is("greatest needed limit", desk.neededLimit(), 1785);
        due.is("pixels of one ink", desk.inkAt(0, 8), 144);
    }

    private static void plateAt() {
        SeparationDesk desk = paintedDesk();
        int[] want = {0, 1, 2, 5, 3, 4, 6};
        for (int place = 0; place < 7; place++) {
            due.is("plateAt(" + place + ")", desk.plateAt(place), want[place]);
        }
        due.is("place -1", desk.plateAt(-1), INVALID);
        due.is("place 7", desk.plateAt(7), INVALID);
        due.is("place least", desk.plateAt(LEAST), INVALID);
    }

    private static void plateAtOfEqualPlates() {
        SeparationDesk desk = new SeparationDesk();
        desk.setPoint(6, 0, 9);
        desk.setPoint(4, 0, 9);
        desk.setPoint(1, 0, 3);
        int[] want = {4, 6, 1, 0, 2, 3, 5};
        for (int place = 0; place < 7; place++) {
            due.is("equal ones, plateAt(" + place + ")", desk.plateAt(place), want[place]);
        }
    }

    private static void greatestSum() {
        SeparationDesk desk = paintedDesk();
        due.is("an empty page", new SeparationDesk().greatestSum(), 0);
        due.is("greatest sum", desk.greatestSum(), 423);
        desk.set(2, 400);
        // rest 337 of 360: 159 + 112 + 65, and 30 + 33
        due.is("after the limit", desk.greatestSum(), 399);
        desk.setSize(1, 1);
        due.is("of the page's pixels", desk.greatestSum(), 390);
    }

    private static void limitedPixels() {
        SeparationDesk desk = paintedDesk();
        int[] limits = {423, 422, 390, 389, 33, 32, 0};
        int[] want = {0, 1, 1, 2, 2, 4, 4};
        for (int i = 0; i < limits.length; i++) {
            desk.set(2, limits[i]);
            due.is("limit " + limits[i], desk.limitedPixels(), want[i]);
        }
        desk.setPoint(0, 0, 1);
        due.is("every pixel", desk.limitedPixels(), 48);
    }

    private static void inkCount() {
        SeparationDesk desk = paintedDesk();
        due.is("painted", desk.inkCount(), 4);
        desk.set(2, 0);
        due.is("no ink", desk.inkCount(), 1);
        desk.undo();
        desk.setSize(1, 1);
        due.is("one pixel", desk.inkCount(), 1);
        due.is("a page of as many inks as pixels", deskOfManyInks().inkCount(), 144);
    }

    /** Each column and each row of 12 has a value of its own. */
    private static SeparationDesk deskOfManyInks() {
        SeparationDesk desk = new SeparationDesk();
        desk.setSize(12, 12);
        desk.set(2, 1785);
        desk.setKnockout(0, 0);
        desk.setKnockout(1, 0);
        for (int i = 1; i < 12; i++) {
            desk.setBox(i, 0, 12, 12);
            desk.addSpot(0, 0, i);
            desk.setBox(0, i, 12, 12);
            desk.addSpot(0, 1, 12 * i);
        }
        return desk;
    }

    private static void inkAtByNumberOfPixels() {
        SeparationDesk desk = paintedDesk();
        int[][] want = {
            {0, 0, 0, 0, 0, 0, 0, 0, 44},
            {0, 0, 0, 0, 0, 33, 0, 33, 2},
            {170, 120, 70, 30, 0, 0, 0, 390, 1},
            {170, 120, 70, 30, 0, 33, 0, 423, 1}};
        for (int place = 0; place < want.length; place++) {
            for (int what = 0; what <= 8; what++) {
                due.is("inkAt(" + place + ", " + what + ")", desk.inkAt(place, what), want[place][what]);
            }
        }
        due.is("not so many", desk.inkAt(4, 0), NOT_FOUND);
    }

    private static void inkAtBySumThenPlates() {
        SeparationDesk desk = new SeparationDesk();
        desk.setSize(3, 2);
        int[][] colors = {{225, 255, 255}, {245, 235, 255}, {245, 245, 245}, {255, 255, 224}, {235, 245, 255}};
        for (int i = 0; i < colors.length; i++) {
            desk.setBox(i % 3, i / 3, 1, 1);
            desk.setInk(colors[i][0], colors[i][1], colors[i][2]);
            desk.addRect(0);
        }
        int[][] want = {{0, 0, 0}, {10, 10, 10}, {10, 20, 0}, {20, 10, 0}, {30, 0, 0}, {0, 0, 31}};
        for (int place = 0; place < want.length; place++) {
            for (int plate = 0; plate < 3; plate++) {
                due.is("sum and plates " + place, desk.inkAt(place, plate), want[place][plate]);
            }
        }
    }

    private static void inkAtRanges() {
        SeparationDesk desk = new SeparationDesk();
        due.is("what -1", desk.inkAt(0, -1), INVALID);
        due.is("what 9", desk.inkAt(0, 9), INVALID);
        due.is("place -1", desk.inkAt(-1, 0), INVALID);
        due.is("place least", desk.inkAt(LEAST, 0), INVALID);
        due.is("place 1", desk.inkAt(1, 0), NOT_FOUND);
        due.is("place most", desk.inkAt(MOST, 8), NOT_FOUND);
        due.is("invalid comes before not found", desk.inkAt(1, 9), INVALID);
        due.is("last of 144", deskOfManyInks().inkAt(143, 7), 11 + 132);
        due.is("behind 144", deskOfManyInks().inkAt(144, 7), NOT_FOUND);
    }

    private static void neededLimit() {
        SeparationDesk desk = paintedDesk();
        due.is("the greatest sum before the limit", desk.neededLimit(), 423);
        desk.set(2, 5);
        due.is("whatever the limit is", desk.neededLimit(), 423);
        desk.set(2, desk.neededLimit());
        due.is("no pixel is limited", desk.limitedPixels(), 0);
        desk.set(2, desk.neededLimit() - 1);
        due.is("one less is too little", desk.limitedPixels(), 1);
        due.is("an empty page", new SeparationDesk().neededLimit(), 0);
    }

    private static void thriftiestAmount() {
        due.is("an empty page", new SeparationDesk().thriftiestAmount(), 0);
        SeparationDesk desk = paintedDesk();
        due.is("most black", desk.thriftiestAmount(), 100);
        due.is("A stays", desk.set(0, 10), 50);
        due.is("A does not count", desk.thriftiestAmount(), 100);
        desk.set(1, 100);
        due.is("no gray to replace", desk.thriftiestAmount(), 0);
        desk.set(1, 90);
        // g is 10: K grows by one with every ten percent, and each K saves two
        due.is("little gray", desk.thriftiestAmount(), 100);
        desk.set(1, 40);
        desk.setPoint(3, 20, 255);
        // K costs 12.75 each up to 20, where 3 colors save 3 each: no black is best
        due.is("dear black", desk.thriftiestAmount(), 0);
        desk.setPoint(3, 20, 0);
        // black is free up to 20, which 34 percent of 60 give
        desk.setPoint(3, 21, 255);
        due.is("black that is free at first", desk.thriftiestAmount(), 34);
        desk.setPoint(3, 20, 0);
        due.is("no change", desk.undo(), 4);
    }

    /** Colors cost nothing up to 99 and all above, so that one percent of 100 is best. */
    private static void thriftiestAmountOfOne() {
        SeparationDesk desk = new SeparationDesk();
        desk.set(1, 0);
        desk.set(2, 1785);
        desk.setInk(155, 155, 155);
        desk.addRect(0);
        for (int plate = 0; plate < 3; plate++) {
            desk.setPoint(plate, 99, 0);
            desk.setPoint(plate, 100, 255);
        }
        due.is("one percent", desk.thriftiestAmount(), 1);
    }

    private static void disorderedPixels() {
        SeparationDesk desk = paintedDesk();
        int[] limits = {1785, 422, 300, 100, 64, 63, 62, 33, 10, 0};
        for (int limit : limits) {
            desk.set(2, limit);
            due.is("limit " + limit, desk.disorderedPixels(), 0);
        }
    }

    /** Black on the last pixel, and something dearer just right of the page and just below it. */
    private static void lastPixelCountsAndNoneBeyond() {
        SeparationDesk desk = new SeparationDesk();
        desk.setSize(3, 2);
        desk.setInk(105, 105, 105);
        desk.setBox(2, 1, 1, 1);
        desk.addRect(0);
        desk.setInk(0, 0, 0);
        desk.setBox(3, 0, 1, 3);
        desk.addRect(0);
        desk.setBox(0, 2, 4, 1);
        desk.addRect(0);
        // 150 each, so K is 55 and the others 95
        due.is("coverage", desk.coverage(7), 340);
        due.is("first plate", desk.plateAt(0), 0);
        due.is("greatest sum", desk.greatestSum(), 340);
        due.is("needed limit", desk.neededLimit(), 340);
        due.is("inks", desk.inkCount(), 2);
        due.is("white pixels", desk.inkAt(0, 8), 5);
        due.is("thriftiest amount", desk.thriftiestAmount(), 100);
        desk.set(1, 150);
        due.is("gray that starts beyond the page's colors", desk.thriftiestAmount(), 0);
        desk.set(2, 449);
        due.is("limited pixels", desk.limitedPixels(), 1);
        desk.remove(1);
        due.is("no limited pixel", desk.limitedPixels(), 0);
        due.is("no ink", desk.coverage(7), 0);
        due.is("one ink", desk.inkCount(), 1);
        due.is("needed limit of nothing", desk.neededLimit(), 0);
    }

    private static void undoRestoresNumbersUsedAgain() {
        SeparationDesk desk = new SeparationDesk();
        desk.setInk(11, 22, 33);
        desk.setBox(1, 1, 1, 1);
        desk.addRect(0);
        desk.remove(1);
        desk.setInk(44, 55, 66);
        desk.setBox(2, 2, 2, 2);
        desk.addSpot(0, 2, 77);
        desk.undo();
        desk.addRect(0);
        desk.undo();
        due.is("the first rect is back", desk.undo(), 1);
        due.is("with its red", desk.rendered(1, 1, 0), 11);
        due.is("its green", desk.rendered(1, 1, 1), 22);
        due.is("its blue", desk.rendered(1, 1, 2), 33);
        due.is("and its box", desk.touchedBy(2, 2), NOT_FOUND);
        desk.remove(1);
        desk.addSpot(0, 1, 88);
        desk.remove(1);
        desk.addSpot(0, 2, 99);
        desk.undo();
        desk.undo();
        due.is("a spot's plate and tint are back", desk.rendered(2, 2, 4), 88);
        due.is("the other plate", desk.rendered(2, 2, 5), 0);
    }

    private static void undoRestoresWhatMoveChanged() {
        SeparationDesk desk = new SeparationDesk();
        desk.addGroup(0, 50, 3, 2);
        desk.addGroup(0, 40, 1, 1);
        desk.addRect(2);
        desk.move(2, 1);
        due.is("20 percent", desk.rendered(4, 3, 0), 204);
        desk.undo();
        due.is("40 percent again", desk.rendered(1, 1, 0), 153);
        due.is("place", desk.nodeInfo(2, 5), 1);
        due.is("depth", desk.nodeInfo(3, 2), 2);
        desk.remove(2);
        desk.addGroup(0, 90, 5, 5);
        desk.undo();
        desk.undo();
        desk.addGroup(0, 100, 0, 0);
        due.is("opacity of a number used again", desk.rendered(1, 1, 0), 153);
        due.is("offset of a number used again", desk.touchedBy(1, 1), 3);
    }

    private static void undoRestores() {
        SeparationDesk desk = new SeparationDesk();
        desk.addGroup(0, 40, 1, 1);
        desk.setSize(2, 4);
        due.is("size undone", desk.undo(), 1);
        due.is("the size", desk.rendered(7, 5, 0), 255);
        int[] initial = {50, 40, 700};
        for (int what = 0; what < 3; what++) {
            desk.set(what, 7);
            desk.undo();
            due.is("setting " + what, desk.set(what, initial[what]), initial[what]);
        }
        for (int plate = 0; plate < 3; plate++) {
            desk.setKnockout(plate, 0);
            desk.undo();
            due.is("knockout " + plate, desk.setKnockout(plate, 1), 1);
        }
        desk.removePoint(0, 9);
        desk.setPoint(6, 10, 200);
        desk.removePoint(6, 10);
        due.is("a removed point undone", desk.undo(), 4);
        due.is("the point", desk.curve(6, 10), 200);
        desk.undo();
        due.is("the straight curve", desk.curve(6, 10), 10);
        due.is("the group is left", desk.nodeCount(), 2);
        desk.addRect(1);
        desk.move(1, 0);
        desk.remove(1);
        desk.undo();
        due.is("removed nodes come back", desk.nodeInfo(2, 1), 1);
        due.is("with their paint", desk.rendered(1, 1, 0), 153);
    }

    private static void undoDropsTheOldest() {
        SeparationDesk desk = new SeparationDesk();
        for (int value = 1; value <= 7; value++) {
            desk.set(0, value);
        }
        for (int left = 4; left >= 0; left--) {
            due.is("undo", desk.undo(), left);
            // g of black is 255 - 40
            due.is("A after the undo", desk.inkOf(0, 3), 215 * (left + 2) / 100);
        }
        due.is("only five states", desk.undo(), IMPOSSIBLE);
        due.is("the state after two changes", desk.set(0, 0), 2);
    }

    private static void undoAfterUndo() {
        SeparationDesk desk = new SeparationDesk();
        desk.set(0, 1);
        desk.set(0, 2);
        due.is("undo is no change", desk.undo(), 1);
        desk.set(0, 3);
        due.is("a change after an undo", desk.undo(), 1);
        due.is("back at the first", desk.undo(), 0);
        due.is("nothing left", desk.undo(), IMPOSSIBLE);
        due.is("A", desk.set(0, 50), 50);
        due.is("setting the same value is a change", desk.undo(), 0);
        desk.setSize(8, 6);
        due.is("setting the same size is a change", desk.undo(), 0);
        desk.setKnockout(0, 1);
        due.is("the same knockout is a change", desk.undo(), 0);
        desk.setPoint(0, 255, 255);
        due.is("the same point is a change", desk.undo(), 0);
    }

    private static void errorsAreNoChanges() {
        SeparationDesk desk = new SeparationDesk();
        desk.set(0, 1);
        desk.setSize(0, 0);
        desk.addGroup(1, 0, 0, 0);
        desk.addRect(1);
        desk.addSpot(1, 0, 0);
        desk.remove(0);
        desk.move(0, 0);
        desk.set(3, 0);
        desk.setKnockout(0, 2);
        desk.setPoint(0, 256, 0);
        desk.removePoint(0, 5);
        desk.simplify(7);
        due.is("errors leave one state", desk.undo(), 0);
    }

    private static void answersAreNoChanges() {
        SeparationDesk desk = paintedDesk();
        int before = desk.coverage(7);
        desk.rendered(0, 0, 0);
        desk.ink(0, 0, 0);
        desk.inkOf(0, 0);
        desk.touchedBy(0, 0);
        desk.curve(0, 0);
        desk.inverse(0, 0);
        desk.plateAt(0);
        desk.greatestSum();
        desk.limitedPixels();
        desk.inkCount();
        desk.inkAt(0, 0);
        desk.neededLimit();
        desk.thriftiestAmount();
        desk.disorderedPixels();
        due.is("the page is as it was", desk.coverage(7), before);
        due.is("three changes less one", desk.undo(), 2);
    }
}
