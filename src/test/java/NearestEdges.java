/** Boundary cases of promises 19 and 20: the nearest boxes of a point, and their distances. */
public final class NearestEdges extends EdgeTest {
    public static void main(String[] args) {
        runTestsOf(NearestEdges.class);
    }

    private static HilbertHutch withBox(int x1, int y1, int x2, int y2) {
        HilbertHutch hutch = new HilbertHutch();
        hutch.add(x1, y1, x2, y2);
        return hutch;
    }

    /** 60 boxes are there and 100 have been added: 40 to 99, the box of number n at the left side n. */
    private static HilbertHutch usedUp() {
        HilbertHutch hutch = new HilbertHutch();
        for (int box = 0; box < 60; box++) {
            hutch.add(box, 0, 100, 0);
        }
        for (int box = 60; box < 100; box++) {
            hutch.remove(box - 60);
            hutch.add(box, 0, 100, 0);
        }
        return hutch;
    }

    private static HilbertHutch withoutBoxes() {
        HilbertHutch hutch = withBox(3, 3, 4, 4);
        hutch.remove(0);
        return hutch;
    }

    private static void dueNearest(Object want, HilbertHutch hutch, int x, int y, int place) {
        due("nearest(" + x + ", " + y + ", " + place + ")", want, () -> hutch.nearest(x, y, place));
    }

    private static void dueDistance(Object want, HilbertHutch hutch, int x, int y, int box) {
        due("distance(" + x + ", " + y + ", " + box + ")", want, () -> hutch.distance(x, y, box));
    }

    // ---- nearest

    static void promise19_pointsInRange() {
        HilbertHutch hutch = withBox(3, 3, 4, 4);
        dueNearest(0, hutch, 0, 0, 0);
        dueNearest(0, hutch, 255, 0, 0);
        dueNearest(0, hutch, 0, 255, 0);
        dueNearest(0, hutch, 255, 255, 0);
    }

    static void promise19_xBelow0IsRefused() {
        HilbertHutch hutch = withBox(3, 3, 4, 4);
        for (int x : BELOW_0) {
            dueNearest(ARGUMENT, hutch, x, 0, 0);
            dueNearest(ARGUMENT, hutch, x, 255, 0);
        }
    }

    static void promise19_xAbove255IsRefused() {
        HilbertHutch hutch = withBox(3, 3, 4, 4);
        for (int x : FAR_UP) {
            dueNearest(ARGUMENT, hutch, x, 0, 0);
            dueNearest(ARGUMENT, hutch, x, 255, 0);
        }
    }

    static void promise19_yBelow0IsRefused() {
        HilbertHutch hutch = withBox(3, 3, 4, 4);
        for (int y : BELOW_0) {
            dueNearest(ARGUMENT, hutch, 0, y, 0);
            dueNearest(ARGUMENT, hutch, 255, y, 0);
        }
    }

    static void promise19_yAbove255IsRefused() {
        HilbertHutch hutch = withBox(3, 3, 4, 4);
        for (int y : FAR_UP) {
            dueNearest(ARGUMENT, hutch, 0, y, 0);
            dueNearest(ARGUMENT, hutch, 255, y, 0);
        }
    }

    static void promise19_theFirstPlaceAndTheLast() {
        HilbertHutch hutch = withBox(20, 0, 20, 0);
        hutch.add(10, 0, 10, 0);
        hutch.add(30, 0, 30, 0);
        dueNearest(1, hutch, 0, 0, 0);
        dueNearest(0, hutch, 0, 0, 1);
        dueNearest(2, hutch, 0, 0, 2);
        dueNearest(INDEX, hutch, 0, 0, 3);
        dueNearest(2, hutch, 255, 0, 0);
        dueNearest(1, hutch, 255, 0, 2);
    }

    static void promise19_aPlaceBelow0IsRefused() {
        HilbertHutch hutch = usedUp();
        for (int place : BELOW_0) {
            dueNearest(INDEX, hutch, 0, 0, place);
        }
    }

    static void promise19_thePlaces59And60() {
        HilbertHutch hutch = usedUp();
        dueNearest(40, hutch, 0, 0, 0);
        dueNearest(99, hutch, 0, 0, 59);
        dueNearest(INDEX, hutch, 0, 0, 60);
        for (int place : FAR_UP) {
            dueNearest(INDEX, hutch, 0, 0, place);
        }
    }

    static void promise19_theOnlyBox() {
        HilbertHutch hutch = withBox(3, 3, 4, 4);
        dueNearest(0, hutch, 200, 200, 0);
        dueNearest(INDEX, hutch, 200, 200, 1);
    }

    static void promise19_noPlaceWithoutBoxes() {
        dueNearest(INDEX, new HilbertHutch(), 0, 0, 0);
        dueNearest(INDEX, withoutBoxes(), 3, 3, 0);
    }

    static void promise19_equallyNearBoxesComeByTheirNumbers() {
        // The box 1 comes first in the tree; all are one step away from (11, 5) but 3, which is none away.
        HilbertHutch hutch = withBox(12, 0, 20, 9);
        hutch.add(0, 0, 10, 9);
        hutch.add(11, 6, 11, 9);
        hutch.add(11, 5, 11, 5);
        dueNearest(3, hutch, 11, 5, 0);
        dueNearest(0, hutch, 11, 5, 1);
        dueNearest(1, hutch, 11, 5, 2);
        dueNearest(2, hutch, 11, 5, 3);
    }

    static void promise19_60EquallyNearBoxes() {
        HilbertHutch hutch = usedUp();
        dueNearest(40, hutch, 100, 0, 0);
        dueNearest(41, hutch, 100, 0, 1);
        dueNearest(98, hutch, 100, 0, 58);
        dueNearest(99, hutch, 100, 0, 59);
        dueNearest(40, hutch, 255, 255, 0);
        dueNearest(99, hutch, 255, 255, 59);
    }

    static void promise19_aBoxAroundThePointIsAsNearAsOneThatItTouches() {
        HilbertHutch hutch = withBox(10, 10, 20, 20);
        hutch.add(0, 0, 255, 255);
        hutch.add(20, 20, 30, 30);
        dueNearest(0, hutch, 20, 20, 0);
        dueNearest(1, hutch, 20, 20, 1);
        dueNearest(2, hutch, 20, 20, 2);
        dueNearest(1, hutch, 21, 21, 0);
        dueNearest(2, hutch, 21, 21, 1);
        dueNearest(0, hutch, 21, 21, 2);
    }

    static void promise19_oneStepDecides() {
        // dx 5 and dy 0 are 25, as dx 4 and dy 3 are; dx 4 and dy 2 are 20, and dx 5 and dy 1 are 26.
        HilbertHutch hutch = withBox(105, 100, 105, 100);
        hutch.add(104, 103, 104, 103);
        hutch.add(96, 98, 96, 98);
        hutch.add(95, 101, 95, 101);
        dueNearest(2, hutch, 100, 100, 0);
        dueNearest(0, hutch, 100, 100, 1);
        dueNearest(1, hutch, 100, 100, 2);
        dueNearest(3, hutch, 100, 100, 3);
    }

    static void promise19_theFarthestBox() {
        HilbertHutch hutch = withBox(255, 255, 255, 255);
        hutch.add(255, 254, 255, 255);
        dueNearest(1, hutch, 0, 0, 0);
        dueNearest(0, hutch, 0, 0, 1);
    }

    static void promise19_aRemovedBoxIsNotThere() {
        HilbertHutch hutch = withBox(3, 3, 4, 4);
        hutch.add(5, 5, 6, 6);
        hutch.remove(0);
        dueNearest(1, hutch, 3, 3, 0);
        dueNearest(INDEX, hutch, 3, 3, 1);
    }

    static void promise19_aWrongPointGoesBeforeAWrongPlace() {
        HilbertHutch hutch = withBox(3, 3, 4, 4);
        dueNearest(ARGUMENT, hutch, -1, 0, 1);
        dueNearest(ARGUMENT, hutch, 0, -1, -1);
        dueNearest(ARGUMENT, hutch, 256, 0, 1);
        dueNearest(ARGUMENT, hutch, 0, 256, -1);
        dueNearest(ARGUMENT, new HilbertHutch(), 0, 256, 0);
        dueNearest(ARGUMENT, new HilbertHutch(), -1, 0, 0);
    }

    // ---- distance

    static void promise20_pointsInRange() {
        HilbertHutch hutch = withBox(100, 50, 110, 70);
        dueDistance(100 * 100 + 50 * 50, hutch, 0, 0, 0);
        dueDistance(145 * 145 + 50 * 50, hutch, 255, 0, 0);
        dueDistance(100 * 100 + 185 * 185, hutch, 0, 255, 0);
        dueDistance(145 * 145 + 185 * 185, hutch, 255, 255, 0);
    }

    static void promise20_xBelow0IsRefused() {
        HilbertHutch hutch = withBox(3, 3, 4, 4);
        for (int x : BELOW_0) {
            dueDistance(ARGUMENT, hutch, x, 0, 0);
            dueDistance(ARGUMENT, hutch, x, 255, 0);
        }
    }

    static void promise20_xAbove255IsRefused() {
        HilbertHutch hutch = withBox(3, 3, 4, 4);
        for (int x : FAR_UP) {
            dueDistance(ARGUMENT, hutch, x, 0, 0);
            dueDistance(ARGUMENT, hutch, x, 255, 0);
        }
    }

    static void promise20_yBelow0IsRefused() {
        HilbertHutch hutch = withBox(3, 3, 4, 4);
        for (int y : BELOW_0) {
            dueDistance(ARGUMENT, hutch, 0, y, 0);
            dueDistance(ARGUMENT, hutch, 255, y, 0);
        }
    }

    static void promise20_yAbove255IsRefused() {
        HilbertHutch hutch = withBox(3, 3, 4, 4);
        for (int y : FAR_UP) {
            dueDistance(ARGUMENT, hutch, 0, y, 0);
            dueDistance(ARGUMENT, hutch, 255, y, 0);
        }
    }

    static void promise20_noneInsideTheBox() {
        HilbertHutch hutch = withBox(100, 50, 110, 70);
        dueDistance(0, hutch, 105, 60, 0);
        HilbertHutch all = withBox(0, 0, 255, 255);
        dueDistance(0, all, 0, 0, 0);
        dueDistance(0, all, 255, 255, 0);
    }

    static void promise20_noneOnEachSide() {
        HilbertHutch hutch = withBox(100, 50, 110, 70);
        dueDistance(0, hutch, 100, 60, 0);
        dueDistance(0, hutch, 110, 60, 0);
        dueDistance(0, hutch, 105, 50, 0);
        dueDistance(0, hutch, 105, 70, 0);
    }

    static void promise20_noneInEachCorner() {
        HilbertHutch hutch = withBox(100, 50, 110, 70);
        dueDistance(0, hutch, 100, 50, 0);
        dueDistance(0, hutch, 110, 50, 0);
        dueDistance(0, hutch, 100, 70, 0);
        dueDistance(0, hutch, 110, 70, 0);
    }

    static void promise20_oneBesideEachSide() {
        HilbertHutch hutch = withBox(100, 50, 110, 70);
        dueDistance(1, hutch, 99, 60, 0);
        dueDistance(1, hutch, 111, 60, 0);
        dueDistance(1, hutch, 105, 49, 0);
        dueDistance(1, hutch, 105, 71, 0);
    }

    static void promise20_twoBesideEachCorner() {
        HilbertHutch hutch = withBox(100, 50, 110, 70);
        dueDistance(2, hutch, 99, 49, 0);
        dueDistance(2, hutch, 111, 49, 0);
        dueDistance(2, hutch, 99, 71, 0);
        dueDistance(2, hutch, 111, 71, 0);
    }

    static void promise20_theGreatestDistance() {
        dueDistance(130050, withBox(255, 255, 255, 255), 0, 0, 0);
        dueDistance(130050, withBox(0, 0, 0, 0), 255, 255, 0);
        dueDistance(130050, withBox(255, 0, 255, 0), 0, 255, 0);
        dueDistance(130050, withBox(0, 255, 0, 255), 255, 0, 0);
    }

    static void promise20_aBoxOfOnePoint() {
        HilbertHutch hutch = withBox(7, 8, 7, 8);
        dueDistance(0, hutch, 7, 8, 0);
        dueDistance(25, hutch, 4, 4, 0);
        dueDistance(9, hutch, 10, 8, 0);
        dueDistance(16, hutch, 7, 4, 0);
    }

    static void promise20_aNumberBelow0IsRefused() {
        HilbertHutch hutch = usedUp();
        for (int box : BELOW_0) {
            dueDistance(INDEX, hutch, 0, 0, box);
        }
    }

    static void promise20_aNumberNotYetUsedIsRefused() {
        HilbertHutch hutch = withBox(3, 3, 4, 4);
        dueDistance(18, hutch, 0, 0, 0);
        dueDistance(INDEX, hutch, 0, 0, 1);
        dueDistance(INDEX, hutch, 0, 0, 99);
        for (int box : FAR_UP) {
            dueDistance(INDEX, hutch, 0, 0, box);
        }
    }

    static void promise20_theNumbers99And100() {
        HilbertHutch hutch = usedUp();
        dueDistance(99 * 99, hutch, 0, 0, 99);
        dueDistance(40 * 40, hutch, 0, 0, 40);
        dueDistance(INDEX, hutch, 0, 0, 39);
        dueDistance(INDEX, hutch, 0, 0, 100);
    }

    static void promise20_aRemovedBoxIsRefused() {
        HilbertHutch hutch = withBox(3, 3, 4, 4);
        hutch.add(5, 5, 6, 6);
        hutch.remove(0);
        dueDistance(INDEX, hutch, 3, 3, 0);
        dueDistance(8, hutch, 3, 3, 1);
    }

    static void promise20_noDistanceWithoutBoxes() {
        dueDistance(INDEX, new HilbertHutch(), 0, 0, 0);
        dueDistance(INDEX, withoutBoxes(), 0, 0, 0);
    }

    static void promise20_aWrongPointGoesBeforeAWrongNumber() {
        HilbertHutch hutch = withBox(3, 3, 4, 4);
        dueDistance(ARGUMENT, hutch, -1, 0, 1);
        dueDistance(ARGUMENT, hutch, 0, -1, -1);
        dueDistance(ARGUMENT, hutch, 256, 0, 100);
        dueDistance(ARGUMENT, hutch, 0, 256, 1);
        dueDistance(ARGUMENT, new HilbertHutch(), 0, 256, 0);
        hutch.remove(0);
        dueDistance(ARGUMENT, hutch, 256, 0, 0);
    }
}
