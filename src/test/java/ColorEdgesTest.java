/** The section "Colors of the page", the page as a whole, and the searches. */
public final class ColorEdgesTest {
    private static final int A = 0;
    private static final int S = 1;
    private static final int L = 2;
    private static final int NOT_FOUND = SeparationDesk.NOT_FOUND;
    private static final int INVALID = SeparationDesk.INVALID_ARGUMENT;
    private static final Due due = new Due();

    public static void main(String[] args) {
        oneInk();
        onePixel();
        allValuesCount();
        sameInksFromOtherParts();
        inksAfterTheLimit();
        manyPixelsComeFirst();
        lowSumsComeNext();
        firstDifferentPlateDecides();
        firstPlateDecidesAmongSeveral();
        inkBehindTheLast();
        nothingBesideThePageCounts();
        everyPixelOfThePageCounts();
        coverageAtItsEnds();
        plateAtOfEmptyPage();
        plateAtOfEqualPlates();
        plateAtInReverse();
        greatestSumAtItsEnds();
        limitedPixelsAtItsEnds();
        neededLimitAtItsEnds();
        neededLimitOfOnePixel();
        lowestOfEquallyThriftyAmounts();
        thriftiestAmountAtItsEnds();
        thriftiestAmountUnderTheLimit();
        thriftiestAmountOverAllPixels();
        orderIsKept();
        due.end();
    }

    /** A page of so many pixels in one row, each with tints of its own and white below them. */
    private static SeparationDesk row(int[]... tints) {
        SeparationDesk desk = new SeparationDesk();
        desk.setSize(tints.length, 1);
        for (int plate = 0; plate < 3; plate++) {
            desk.setKnockout(plate, 0);
        }
        for (int x = 0; x < tints.length; x++) {
            desk.setBox(x, 0, 1, 1);
            for (int plate = 0; plate < tints[x].length; plate++) {
                // tints of 0 stand already, and there are but 23 numbers
                if (tints[x][plate] != 0) {
                    due.holds("a spot", desk.addSpot(0, plate, tints[x][plate]) > 0);
                }
            }
        }
        return desk;
    }

    private static void inkRow(SeparationDesk desk, int place, int... want) {
        for (int what = 0; what < want.length; what++) {
            due.is("inkAt(" + place + ", " + what + ")", desk.inkAt(place, what), want[what]);
        }
    }

    /** "The different inks of the page": one only. */
    private static void oneInk() {
        SeparationDesk desk = new SeparationDesk();
        due.is("an empty page", desk.inkCount(), 1);
        inkRow(desk, 0, 0, 0, 0, 0, 0, 0, 0, 0, 48);
        desk.setBox(0, 0, 12, 12);
        desk.setInk(55, 105, 155);
        desk.addRect(0);
        due.is("a full page", desk.inkCount(), 1);
        inkRow(desk, 0, 170, 120, 70, 30, 0, 0, 0, 390, 48);
        due.is("no second one", desk.inkAt(1, 0), NOT_FOUND);
        desk.setSize(12, 12);
        due.is("one on the greatest page", desk.inkCount(), 1);
        inkRow(desk, 0, 170, 120, 70, 30, 0, 0, 0, 390, 144);
    }

    /** The least page has one ink on one pixel. */
    private static void onePixel() {
        SeparationDesk desk = new SeparationDesk();
        desk.setSize(1, 1);
        due.is("one ink", desk.inkCount(), 1);
        desk.addSpot(0, 0, 9);
        due.is("still one", desk.inkCount(), 1);
        inkRow(desk, 0, 0, 0, 0, 0, 9, 0, 0, 9, 1);
        due.is("coverage", desk.coverage(7), 9);
        due.is("greatest sum", desk.greatestSum(), 9);
        due.is("needed limit", desk.neededLimit(), 9);
        due.is("first plate", desk.plateAt(0), 4);
        due.is("no second ink", desk.inkAt(1, 8), NOT_FOUND);
    }

    /** "Two pixels have the same inks if all seven values are equal.": one that differs is enough. */
    private static void allValuesCount() {
        for (int plate = 0; plate < 7; plate++) {
            SeparationDesk desk = deskOfTwoPixels();
            for (int other = 0; other < 7; other++) {
                if (other != plate) {
                    desk.setPoint(other, 255, 0);
                }
            }
            due.is("they differ in plate " + plate, desk.inkCount(), 2);
            desk.setPoint(plate, 255, 0);
            due.is("and then no more", desk.inkCount(), 1);
            inkRow(desk, 0, 0, 0, 0, 0, 0, 0, 0, 0, 2);
        }
    }

    /** Two pixels that differ in all seven values: 50, 60, 70, 50 and 100, 120, 140, 100 before the tints. */
    private static SeparationDesk deskOfTwoPixels() {
        SeparationDesk desk = new SeparationDesk();
        desk.setSize(2, 1);
        desk.set(S, 0);
        desk.set(L, 1785);
        for (int x = 0; x < 2; x++) {
            desk.setBox(x, 0, 1, 1);
            desk.setInk(155 - 100 * x, 145 - 110 * x, 135 - 120 * x);
            desk.addRect(0);
            for (int plate = 0; plate < 3; plate++) {
                desk.setKnockout(plate, 0);
                desk.addSpot(0, plate, 10 + plate + 10 * x);
            }
        }
        return desk;
    }

    /** "The inks of a pixel are its seven values after separation.": not its parts before it. */
    private static void sameInksFromOtherParts() {
        SeparationDesk desk = row(new int[] {5}, new int[] {9}, new int[] {100});
        due.is("three inks", desk.inkCount(), 3);
        desk.setPoint(4, 50, 0);
        due.is("the curve makes two equal", desk.inkCount(), 2);
        due.is("the equal ones come first", desk.inkAt(0, 8), 2);
        due.is("their sum", desk.inkAt(0, 7), 0);
        due.is("the third one", desk.inkAt(1, 4), 50 * 255 / 205);
    }

    /** "after separation": the limit makes inks equal as well. */
    private static void inksAfterTheLimit() {
        SeparationDesk desk = row(new int[] {100}, new int[] {120}, new int[] {140}, new int[] {90});
        due.is("four inks", desk.inkCount(), 4);
        desk.set(L, 110);
        due.is("two are limited to 110", desk.inkCount(), 3);
        inkRow(desk, 0, 0, 0, 0, 0, 110, 0, 0, 110, 2);
        inkRow(desk, 1, 0, 0, 0, 0, 90, 0, 0, 90, 1);
        inkRow(desk, 2, 0, 0, 0, 0, 100, 0, 0, 100, 1);
        desk.set(L, 90);
        due.is("all", desk.inkCount(), 1);
        desk.set(L, 0);
        due.is("no ink is one ink", desk.inkCount(), 1);
    }

    /** "ordered by the number of pixels that have them, the greatest first" */
    private static void manyPixelsComeFirst() {
        SeparationDesk desk = row(
            new int[] {1}, new int[] {0, 0, 200}, new int[] {1, 1}, new int[] {0, 0, 200}, new int[] {1, 1},
            new int[] {0, 0, 200});
        inkRow(desk, 0, 0, 0, 0, 0, 0, 0, 200, 200, 3);
        inkRow(desk, 1, 0, 0, 0, 0, 1, 1, 0, 2, 2);
        inkRow(desk, 2, 0, 0, 0, 0, 1, 0, 0, 1, 1);
        due.is("three", desk.inkCount(), 3);
        due.is("no fourth", desk.inkAt(3, 8), NOT_FOUND);
    }

    /** "of equally frequent ones, those with the lower sum of all values come first" */
    private static void lowSumsComeNext() {
        SeparationDesk desk = row(
            new int[] {0, 0, 12}, new int[] {11}, new int[] {1, 1, 11}, new int[] {5, 5}, new int[] {0, 0, 12},
            new int[] {11});
        inkRow(desk, 0, 0, 0, 0, 0, 11, 0, 0, 11, 2);
        inkRow(desk, 1, 0, 0, 0, 0, 0, 0, 12, 12, 2);
        inkRow(desk, 2, 0, 0, 0, 0, 5, 5, 0, 10, 1);
        inkRow(desk, 3, 0, 0, 0, 0, 1, 1, 11, 13, 1);
    }

    /** "and of these, those with the lower value of the first plate (from 0 on) in which they differ": each plate. */
    private static void firstDifferentPlateDecides() {
        for (int plate = 0; plate < 6; plate++) {
            for (int first = 0; first < 2; first++) {
                SeparationDesk desk = deskOfTwoInksThatDifferFirstIn(plate, first);
                due.is("two inks", desk.inkCount(), 2);
                due.is("equal sums", desk.inkAt(0, 7), desk.inkAt(1, 7));
                for (int equal = 0; equal < plate; equal++) {
                    due.is("equal plate " + equal, desk.inkAt(0, equal), desk.inkAt(1, equal));
                }
                due.holds("the lower value first", desk.inkAt(0, plate) < desk.inkAt(1, plate));
            }
        }
    }

    /** The pixel with the lower value on this plate is that at x = first; the sums are equal. */
    private static SeparationDesk deskOfTwoInksThatDifferFirstIn(int plate, int first) {
        SeparationDesk desk = new SeparationDesk();
        desk.setSize(2, 1);
        desk.set(A, 100);
        desk.set(S, plate == 3 ? 0 : 255);
        for (int spot = 0; spot < 3; spot++) {
            desk.setKnockout(spot, 0);
        }
        for (int x = 0; x < 2; x++) {
            int value = x == first ? 10 : 11;
            int rest = 21 - value;
            desk.setBox(x, 0, 1, 1);
            if (plate < 3) {
                int[] c = new int[3];
                c[plate] = value;
                if (plate < 2) {
                    c[plate + 1] = rest;
                }
                desk.setInk(255 - c[0], 255 - c[1], 255 - c[2]);
                desk.addRect(0);
            } else if (plate == 3) {
                desk.setInk(255 - value, 255 - value, 255 - value);
                desk.addRect(0);
            } else {
                desk.addSpot(0, plate - 4, value);
            }
            if (plate >= 2) {
                desk.addSpot(0, Math.max(0, plate - 3), rest);
            }
        }
        return desk;
    }

    /** "the first plate (from 0 on) in which they differ": further ones that differ the other way don't count. */
    private static void firstPlateDecidesAmongSeveral() {
        SeparationDesk desk = row(
            new int[] {3, 0, 2}, new int[] {2, 1, 2}, new int[] {2, 3}, new int[] {0, 0, 5}, new int[] {2, 2, 1},
            new int[] {0, 5});
        int[][] want = {{0, 0, 5}, {0, 5, 0}, {2, 1, 2}, {2, 2, 1}, {2, 3, 0}, {3, 0, 2}};
        for (int place = 0; place < want.length; place++) {
            for (int plate = 0; plate < 3; plate++) {
                due.is("place " + place, desk.inkAt(place, 4 + plate), want[place][plate]);
            }
        }
    }

    /** "NOT_FOUND if there are not so many." */
    private static void inkBehindTheLast() {
        SeparationDesk desk = row(new int[] {1}, new int[] {2}, new int[] {3});
        due.is("three", desk.inkCount(), 3);
        for (int what = 0; what <= 8; what++) {
            due.holds("the last one's " + what, desk.inkAt(2, what) >= 0);
            due.is("behind the last one", desk.inkAt(3, what), NOT_FOUND);
        }
        due.is("what 9 of the last one", desk.inkAt(2, 9), INVALID);
        due.is("what 9 behind it", desk.inkAt(3, 9), INVALID);
        due.is("what -1 behind it", desk.inkAt(3, -1), INVALID);
        due.is("place -1", desk.inkAt(-1, 8), INVALID);
        desk.setSize(12, 12);
        due.is("white is a fourth", desk.inkAt(0, 8), 141);
        due.is("the last of four", desk.inkAt(3, 7), 3);
        due.is("place 144", desk.inkAt(144, 0), NOT_FOUND);
    }

    /** "over all pixels", "of a pixel", "the number of pixels": those of the page alone, on each of its four sides. */
    private static void nothingBesideThePageCounts() {
        int[][] boxes = {{-1, 0, 1, 3}, {0, -1, 4, 1}, {4, 0, 1, 3}, {0, 3, 4, 1}, {-1, -1, 1, 1}, {4, 3, 1, 1}};
        for (int[] b : boxes) {
            SeparationDesk desk = new SeparationDesk();
            desk.setSize(4, 3);
            desk.set(L, 500);
            desk.setBox(b[0], b[1], b[2], b[3]);
            desk.addRect(0);
            String beside = "beside the page at " + b[0] + ", " + b[1] + ": ";
            due.is(beside + "coverage", desk.coverage(7), 0);
            due.is(beside + "first plate", desk.plateAt(0), 0);
            due.is(beside + "greatest sum", desk.greatestSum(), 0);
            due.is(beside + "limited pixels", desk.limitedPixels(), 0);
            due.is(beside + "inks", desk.inkCount(), 1);
            due.is(beside + "pixels of the ink", desk.inkAt(0, 8), 12);
            due.is(beside + "needed limit", desk.neededLimit(), 0);
            due.is(beside + "thriftiest amount", desk.thriftiestAmount(), 0);
            due.is(beside + "disordered pixels", desk.disorderedPixels(), 0);
        }
    }

    /** The first and the last pixel, the first and the last row and column: each alone counts. */
    private static void everyPixelOfThePageCounts() {
        for (int pixel = 0; pixel < 12; pixel++) {
            SeparationDesk desk = new SeparationDesk();
            desk.setSize(4, 3);
            desk.set(L, 500);
            desk.setBox(pixel % 4, pixel / 4, 1, 1);
            desk.addRect(0);
            // black: K 107 and three times 148, of which the limit leaves three times 131
            due.is("coverage", desk.coverage(7), 500);
            due.is("K", desk.coverage(3), 107);
            due.is("first plate", desk.plateAt(3), 3);
            due.is("greatest sum", desk.greatestSum(), 500);
            due.is("limited pixels", desk.limitedPixels(), 1);
            due.is("inks", desk.inkCount(), 2);
            due.is("its ink", desk.inkAt(1, 0), 131);
            due.is("its pixel", desk.inkAt(1, 8), 1);
            due.is("needed limit", desk.neededLimit(), 551);
            desk.set(L, 700);
            due.is("thriftiest amount", desk.thriftiestAmount(), 100);
        }
    }

    private static SeparationDesk deskOfFullPlates() {
        SeparationDesk desk = new SeparationDesk();
        desk.setSize(12, 12);
        desk.set(L, 1785);
        for (int plate = 0; plate < 7; plate++) {
            desk.setPoint(plate, 0, 255);
        }
        return desk;
    }

    /** "Returns the sum of the values of a plate over all pixels.": none, and all there can be. */
    private static void coverageAtItsEnds() {
        SeparationDesk empty = new SeparationDesk();
        SeparationDesk full = deskOfFullPlates();
        for (int plate = 0; plate < 7; plate++) {
            due.is("empty plate " + plate, empty.coverage(plate), 0);
            due.is("full plate " + plate, full.coverage(plate), 144 * 255);
        }
        due.is("empty, all plates", empty.coverage(7), 0);
        due.is("full, all plates", full.coverage(7), 144 * 1785);
        full.setSize(1, 1);
        due.is("one full pixel", full.coverage(7), 1785);
        full.set(L, 0);
        due.is("no ink at L 0", full.coverage(7), 0);
    }

    /** "of equal ones the lowest plate first": all are 0. */
    private static void plateAtOfEmptyPage() {
        SeparationDesk empty = new SeparationDesk();
        SeparationDesk full = deskOfFullPlates();
        for (int place = 0; place < 7; place++) {
            due.is("empty, place " + place, empty.plateAt(place), place);
            due.is("full, place " + place, full.plateAt(place), place);
        }
    }

    /** "of equal ones the lowest plate first": some are equal. */
    private static void plateAtOfEqualPlates() {
        SeparationDesk desk = new SeparationDesk();
        int[] outputs = {2, 9, 2, 0, 9, 0, 5};
        for (int plate = 0; plate < 7; plate++) {
            desk.setPoint(plate, 0, outputs[plate]);
        }
        int[] want = {1, 4, 6, 0, 2, 3, 5};
        for (int place = 0; place < 7; place++) {
            due.is("place " + place, desk.plateAt(place), want[place]);
        }
        desk.setPoint(5, 0, 1);
        due.is("one more than 3", desk.plateAt(5), 5);
        due.is("3 is last then", desk.plateAt(6), 3);
    }

    /** "the plate with a place in the order of coverage, the greatest first" */
    private static void plateAtInReverse() {
        SeparationDesk desk = new SeparationDesk();
        for (int plate = 0; plate < 7; plate++) {
            desk.setPoint(plate, 0, plate + 1);
        }
        for (int place = 0; place < 7; place++) {
            due.is("place " + place, desk.plateAt(place), 6 - place);
        }
        due.is("place -1", desk.plateAt(-1), INVALID);
        due.is("place 7", desk.plateAt(7), INVALID);
    }

    /** "Returns the greatest sum of all inks of a pixel.", which is never above L. */
    private static void greatestSumAtItsEnds() {
        due.is("an empty page", new SeparationDesk().greatestSum(), 0);
        SeparationDesk full = deskOfFullPlates();
        due.is("a full page", full.greatestSum(), 1785);
        full.set(L, 0);
        due.is("a full page at L 0", full.greatestSum(), 0);
        SeparationDesk desk = row(new int[] {7}, new int[] {3, 3, 3}, new int[] {0, 8});
        due.is("the middle pixel's", desk.greatestSum(), 9);
        desk.set(L, 8);
        due.is("the limit rounds 3 * 8 / 9 down to 2", desk.greatestSum(), 8);
        desk.set(L, 7);
        due.is("the first pixel's", desk.greatestSum(), 7);
    }

    /** "Returns the number of pixels whose values are changed by step 4": none, some, and all. */
    private static void limitedPixelsAtItsEnds() {
        SeparationDesk desk = row(new int[] {7}, new int[] {3, 3, 3}, new int[] {0, 8}, new int[] {});
        int[] limits = {1785, 9, 8, 7, 6, 1, 0};
        int[] want = {0, 0, 1, 2, 3, 3, 3};
        for (int i = 0; i < limits.length; i++) {
            desk.set(L, limits[i]);
            due.is("L " + limits[i], desk.limitedPixels(), want[i]);
        }
        SeparationDesk full = deskOfFullPlates();
        due.is("a full page at its sum", full.limitedPixels(), 0);
        full.set(L, 1784);
        due.is("a full page below it", full.limitedPixels(), 144);
        SeparationDesk empty = new SeparationDesk();
        empty.set(L, 0);
        due.is("an empty page at L 0", empty.limitedPixels(), 0);
    }

    /** "Returns the least L with which no pixel would be changed by step 4": 0 and 1785. */
    private static void neededLimitAtItsEnds() {
        SeparationDesk empty = new SeparationDesk();
        due.is("an empty page", empty.neededLimit(), 0);
        empty.set(L, 0);
        due.is("an empty page at L 0", empty.neededLimit(), 0);
        SeparationDesk full = deskOfFullPlates();
        due.is("a full page", full.neededLimit(), 1785);
        full.set(L, 0);
        due.is("a full page at L 0", full.neededLimit(), 1785);
        due.is("L stays", full.set(L, 1785), 0);
        due.is("and is no change", full.undo(), 4);
    }

    /** "no pixel would be changed": the dearest one decides, whether by colors, K or spots. */
    private static void neededLimitOfOnePixel() {
        SeparationDesk desk = row(new int[] {7}, new int[] {3, 3, 3}, new int[] {0, 8}, new int[] {});
        desk.set(L, 5);
        due.is("spots", desk.neededLimit(), 9);
        desk.set(S, 0);
        desk.set(A, 100);
        desk.setInk(245, 245, 245);
        desk.setBox(3, 0, 1, 1);
        desk.addRect(0);
        due.is("K", desk.neededLimit(), 10);
        desk.set(A, 0);
        due.is("colors", desk.neededLimit(), 30);
        due.is("L is still 5", desk.set(L, 30), 5);
        due.is("none is limited by 30", desk.limitedPixels(), 0);
        desk.set(L, 29);
        due.is("one is by 29", desk.limitedPixels(), 1);
        desk.setSize(3, 1);
        due.is("a page without that pixel", desk.neededLimit(), 9);
    }

    /** "of several the lowest one" */
    private static void lowestOfEquallyThriftyAmounts() {
        SeparationDesk desk = new SeparationDesk();
        due.is("all are equal on white", desk.thriftiestAmount(), 0);
        desk.setInk(255 - 50, 255 - 50, 255 - 50);
        desk.addRect(0);
        // g is 10, so K grows with every ten percent, and 100 alone gives 10
        due.is("100 alone", desk.thriftiestAmount(), 100);
        desk.setPoint(3, 8, 8);
        desk.setPoint(3, 9, 200);
        // 8 is the most that is cheap, given by 80 to 89 percent
        due.is("80 to 89 are equal", desk.thriftiestAmount(), 80);
        desk.set(S, 49);
        due.is("g 1: 0 to 99 are equal, and 100 is better", desk.thriftiestAmount(), 100);
        desk.setPoint(3, 1, 4);
        due.is("K costs 4 and saves 3", desk.thriftiestAmount(), 0);
        desk.setPoint(3, 1, 3);
        due.is("K costs 3 and saves 3", desk.thriftiestAmount(), 0);
        desk.setPoint(3, 1, 2);
        due.is("K costs 2 and saves 3", desk.thriftiestAmount(), 100);
        desk.set(S, 50);
        due.is("no gray", desk.thriftiestAmount(), 0);
    }

    /** "the A, 0 to 100": the present A does not count, and stays. */
    private static void thriftiestAmountAtItsEnds() {
        SeparationDesk desk = new SeparationDesk();
        desk.addRect(0);
        int[] amounts = {0, 1, 99, 100};
        for (int amount : amounts) {
            desk.set(A, amount);
            due.is("100 is best at " + amount, desk.thriftiestAmount(), 100);
            due.is("A stays", desk.set(A, amount), amount);
        }
        for (int plate = 0; plate < 3; plate++) {
            desk.setPoint(plate, 255, 0);
        }
        for (int amount : amounts) {
            desk.set(A, amount);
            due.is("0 is best at " + amount, desk.thriftiestAmount(), 0);
            due.is("A stays", desk.set(A, amount), amount);
        }
    }

    /** "everything else being as it is": L limits the inks of each amount. */
    private static void thriftiestAmountUnderTheLimit() {
        SeparationDesk desk = new SeparationDesk();
        desk.set(S, 0);
        desk.addRect(0);
        desk.set(L, 0);
        due.is("no ink at L 0", desk.thriftiestAmount(), 0);
        desk.set(L, 254);
        // at 0 percent three times 254 / 3 are 252, and no amount gives less
        due.is("less than 254", desk.thriftiestAmount(), 0);
        desk.set(L, 256);
        // three times 85 at 0 percent, but K 2 and three times 84 at 1 percent
        due.is("254 by rounding", desk.thriftiestAmount(), 1);
        desk.set(L, 258);
        // 258 at 0 percent, 256 now and then by rounding, and 255 by K alone
        due.is("K alone", desk.thriftiestAmount(), 100);
    }

    /** "the least sum of all plates over all pixels" */
    private static void thriftiestAmountOverAllPixels() {
        SeparationDesk desk = new SeparationDesk();
        desk.setSize(3, 1);
        desk.set(S, 0);
        desk.setPoint(3, 50, 0);
        desk.setPoint(3, 51, 255);
        desk.setInk(155, 155, 155);
        desk.addRect(0);
        // K may be 50 of 100
        due.is("one pixel", desk.thriftiestAmount(), 50);
        desk.setBox(1, 0, 2, 1);
        desk.setInk(235, 235, 235);
        desk.addRect(0);
        // the light ones save 3 * 20 in all at 100, less than the step of 255 costs
        due.is("light pixels beside it", desk.thriftiestAmount(), 50);
        desk.setInk(130, 130, 130);
        desk.addRect(0);
        // the dark ones may have K 50 of 125, which is 40 percent
        due.is("two dark pixels beside it", desk.thriftiestAmount(), 40);
    }

    /** "some value that was less than another one is greater than it afterwards": equal ones afterwards are none. */
    private static void orderIsKept() {
        SeparationDesk desk = new SeparationDesk();
        due.is("an empty page", desk.disorderedPixels(), 0);
        int[][] colors = {{255, 254, 253}, {253, 254, 255}, {1, 2, 3}, {3, 2, 1}, {0, 0, 1}, {100, 0, 100}, {7, 200, 9}};
        desk.setSize(colors.length, 1);
        desk.set(S, 255);
        for (int x = 0; x < colors.length; x++) {
            desk.setBox(x, 0, 1, 1);
            desk.setInk(255 - colors[x][0], 255 - colors[x][1], 255 - colors[x][2]);
            desk.addRect(0);
        }
        for (int limit = 0; limit < 100; limit++) {
            desk.set(L, limit * limit / 6);
            due.is("L " + limit * limit / 6, desk.disorderedPixels(), 0);
        }
        desk.setPoint(0, 255, 0);
        // C is the greatest of the first pixel's parts, but its curve makes it the least before step 4
        due.is("curves come before", desk.disorderedPixels(), 0);
    }
}
