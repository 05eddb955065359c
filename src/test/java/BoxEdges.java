/** Boundary cases of promises 1, 2, 3, 5, 6, 7 and 8: the boxes, their numbers, sides and keys. */
public final class BoxEdges extends EdgeTest {
    private static final int[] TOO_HIGH_OR_LOW = {
        -1, 256, -255, -256, 511, 512, 65536, 1 << 24, 1 << 30, -(1 << 24), Integer.MIN_VALUE, Integer.MAX_VALUE,
    };

    public static void main(String[] args) {
        runTestsOf(BoxEdges.class);
    }

    private static HilbertHutch withPoints(int boxes) {
        HilbertHutch hutch = new HilbertHutch();
        for (int i = 0; i < boxes; i++) {
            hutch.add(i, 0, i, 0);
        }
        return hutch;
    }

    /** 60 boxes are there and 100 have been added: 40 to 99. */
    private static HilbertHutch usedUp() {
        HilbertHutch hutch = withPoints(60);
        for (int box = 0; box < 40; box++) {
            hutch.remove(box);
            hutch.add(box, 1, box, 1);
        }
        return hutch;
    }

    private static HilbertHutch withBox(int x1, int y1, int x2, int y2) {
        HilbertHutch hutch = new HilbertHutch();
        hutch.add(x1, y1, x2, y2);
        return hutch;
    }

    private static void dueSides(HilbertHutch hutch, int box, int... sides) {
        for (int i = 0; i < 4; i++) {
            int side = i;
            due("sideOf(" + box + ", " + side + ")", sides[i], () -> hutch.sideOf(box, side));
        }
    }

    private static void dueAdded(int x1, int y1, int x2, int y2) {
        HilbertHutch hutch = new HilbertHutch();
        due("add(" + x1 + ", " + y1 + ", " + x2 + ", " + y2 + ")", 0, () -> hutch.add(x1, y1, x2, y2));
        due("boxes() behind it", 1, hutch::boxes);
        dueSides(hutch, 0, x1, y1, x2, y2);
    }

    private static void dueRefused(int x1, int y1, int x2, int y2) {
        HilbertHutch hutch = new HilbertHutch();
        due("add(" + x1 + ", " + y1 + ", " + x2 + ", " + y2 + ")", ARGUMENT, () -> hutch.add(x1, y1, x2, y2));
        due("boxes() behind it", 0, hutch::boxes);
        due("the number of the next box", 0, () -> hutch.add(0, 0, 0, 0));
    }

    // ---- a new object

    static void promise1_aNewTreeHasNoBox() {
        HilbertHutch hutch = new HilbertHutch();
        due("boxes()", 0, hutch::boxes);
        due("count of all", 0, () -> hutch.count(0, 0, 255, 255));
        due("pairs()", 0, hutch::pairs);
    }

    static void promise1_aNewTreeHasNoLevelAndNoNode() {
        HilbertHutch hutch = new HilbertHutch();
        due("levels()", 0, hutch::levels);
        due("nodes(0)", INDEX, () -> hutch.nodes(0));
        due("entries(0, 0)", INDEX, () -> hutch.entries(0, 0));
        due("cover(0, 0, 0)", INDEX, () -> hutch.cover(0, 0, 0));
        due("visits of all", 0, () -> hutch.visits(0, 0, 255, 255));
        due("pack()", 0, hutch::pack);
    }

    static void promise1_aNewTreeHasNoNumberOfABox() {
        HilbertHutch hutch = new HilbertHutch();
        due("remove(0)", INDEX, () -> hutch.remove(0));
        due("keyOf(0)", INDEX, () -> hutch.keyOf(0));
        due("sideOf(0, 0)", INDEX, () -> hutch.sideOf(0, 0));
        due("leafOf(0)", INDEX, () -> hutch.leafOf(0));
        due("distance(0, 0, 0)", INDEX, () -> hutch.distance(0, 0, 0));
    }

    static void promise1_aNewTreeHasNoPlace() {
        HilbertHutch hutch = new HilbertHutch();
        due("boxAt(0)", INDEX, () -> hutch.boxAt(0));
        due("found of all, 0", INDEX, () -> hutch.found(0, 0, 255, 255, 0));
        due("nearest(0, 0, 0)", INDEX, () -> hutch.nearest(0, 0, 0));
        due("pair(0)", INDEX, () -> hutch.pair(0));
    }

    static void promise1_aNewTreeHasNoTightness() {
        due("tightness()", STATE, () -> new HilbertHutch().tightness());
    }

    static void promise1_aNewTreeTellsKeysOfPoints() {
        due("key(255, 0)", 65535, () -> new HilbertHutch().key(255, 0));
    }

    static void promise1_twoTreesShareNothing() {
        HilbertHutch first = withPoints(60);
        HilbertHutch second = withPoints(3);
        first.remove(1);
        second.pack();
        due("boxes() of the first", 59, first::boxes);
        due("boxes() of the second", 3, second::boxes);
        due("the next number of the second", 3, () -> second.add(0, 0, 0, 0));
        due("boxes() of a third", 0, () -> new HilbertHutch().boxes());
    }

    static void promise1_the512thCallIsAnswered() {
        HilbertHutch hutch = withPoints(60);
        for (int call = 61; call <= 509; call++) {
            hutch.pack();
        }
        due("the 510th call, add()", STATE, () -> hutch.add(0, 0, 0, 0));
        due("the 511th call, remove(0)", 59, () -> hutch.remove(0));
        due("the 512th call, add()", 60, () -> hutch.add(0, 0, 0, 0));
    }

    static void promise1_512RefusedCallsAreRefused() {
        HilbertHutch hutch = new HilbertHutch();
        for (int call = 1; call <= 512; call++) {
            due("call " + call + ", remove(0)", INDEX, () -> hutch.remove(0));
        }
    }

    // ---- add: the sides

    static void promise2_theLeftSideMayBe0() {
        dueAdded(0, 7, 9, 8);
    }

    static void promise2_theLeftSideMayNotBeBelow0() {
        dueRefused(-1, 7, 9, 8);
    }

    static void promise2_theLeftSideMayBe255() {
        dueAdded(255, 7, 255, 8);
    }

    static void promise2_theLeftSideMayNotBeAbove255() {
        dueRefused(256, 7, 256, 8);
        dueRefused(256, 7, 255, 8);
    }

    static void promise2_theLowerSideMayBe0() {
        dueAdded(7, 0, 8, 9);
    }

    static void promise2_theLowerSideMayNotBeBelow0() {
        dueRefused(7, -1, 8, 9);
    }

    static void promise2_theLowerSideMayBe255() {
        dueAdded(7, 255, 8, 255);
    }

    static void promise2_theLowerSideMayNotBeAbove255() {
        dueRefused(7, 256, 8, 256);
        dueRefused(7, 256, 8, 255);
    }

    static void promise2_theRightSideMayBe255() {
        dueAdded(3, 7, 255, 8);
    }

    static void promise2_theRightSideMayNotBeAbove255() {
        dueRefused(3, 7, 256, 8);
    }

    static void promise2_theRightSideMayBeTheLeftSide() {
        dueAdded(0, 7, 0, 8);
        dueAdded(100, 7, 100, 8);
        dueAdded(255, 7, 255, 8);
    }

    static void promise2_theRightSideMayNotBeBelowTheLeftSide() {
        dueRefused(1, 7, 0, 8);
        dueRefused(101, 7, 100, 8);
        dueRefused(255, 7, 254, 8);
        dueRefused(255, 7, 0, 8);
    }

    static void promise2_theRightSideMayNotBeBelow0() {
        dueRefused(0, 7, -1, 8);
        dueRefused(-1, 7, -1, 8);
        dueRefused(-2, 7, -1, 8);
    }

    static void promise2_theUpperSideMayBe255() {
        dueAdded(7, 3, 8, 255);
    }

    static void promise2_theUpperSideMayNotBeAbove255() {
        dueRefused(7, 3, 8, 256);
    }

    static void promise2_theUpperSideMayBeTheLowerSide() {
        dueAdded(7, 0, 8, 0);
        dueAdded(7, 100, 8, 100);
        dueAdded(7, 255, 8, 255);
    }

    static void promise2_theUpperSideMayNotBeBelowTheLowerSide() {
        dueRefused(7, 1, 8, 0);
        dueRefused(7, 101, 8, 100);
        dueRefused(7, 255, 8, 254);
        dueRefused(7, 255, 8, 0);
    }

    static void promise2_theUpperSideMayNotBeBelow0() {
        dueRefused(7, 0, 8, -1);
        dueRefused(7, -1, 8, -1);
        dueRefused(7, -2, 8, -1);
    }

    static void promise2_aBoxMayBeOnePoint() {
        dueAdded(0, 0, 0, 0);
        dueAdded(0, 255, 0, 255);
        dueAdded(255, 0, 255, 0);
        dueAdded(255, 255, 255, 255);
    }

    static void promise2_aBoxMayContainAllPoints() {
        dueAdded(0, 0, 255, 255);
    }

    static void promise2_sidesFarOutOfRangeAreRefused() {
        for (int side : TOO_HIGH_OR_LOW) {
            dueRefused(side, 0, 255, 255);
            dueRefused(0, side, 255, 255);
            dueRefused(0, 0, side, 255);
            dueRefused(0, 0, 255, side);
            dueRefused(side, 0, side, 255);
            dueRefused(0, side, 255, side);
        }
    }

    static void promise2_theSidesDoNotLimitEachOtherAcross() {
        dueAdded(200, 0, 255, 10);
        dueAdded(0, 200, 10, 255);
    }

    // ---- add: the numbers and how many boxes there may be

    static void promise2_theFirstNumberIs0() {
        due("add()", 0, () -> new HilbertHutch().add(9, 9, 9, 9));
    }

    static void promise2_theNumbersGoUpByOneTo99() {
        HilbertHutch hutch = new HilbertHutch();
        for (int i = 0; i < 100; i++) {
            int box = i;
            due("add()", box, () -> hutch.add(255 - box, 0, 255 - box, 0));
            due("remove()", 0, () -> hutch.remove(box));
        }
    }

    static void promise2_theSameBoxGetsANumberOfItsOwn() {
        HilbertHutch hutch = withBox(1, 2, 3, 4);
        due("add() of the same sides", 1, () -> hutch.add(1, 2, 3, 4));
        due("boxes()", 2, hutch::boxes);
    }

    static void promise2_theNumberOfARemovedBoxIsNotUsedAgain() {
        HilbertHutch hutch = withPoints(3);
        hutch.remove(1);
        due("add() behind the removal of 1", 3, () -> hutch.add(0, 0, 0, 0));
        hutch.remove(3);
        due("add() behind the removal of the last one", 4, () -> hutch.add(0, 0, 0, 0));
        due("keyOf(1)", INDEX, () -> hutch.keyOf(1));
        due("keyOf(3)", INDEX, () -> hutch.keyOf(3));
    }

    static void promise2_aRefusedBoxTakesNoNumber() {
        HilbertHutch hutch = withPoints(1);
        due("add() of wrong sides", ARGUMENT, () -> hutch.add(0, 0, 0, 256));
        due("the next number", 1, () -> hutch.add(0, 0, 0, 0));
    }

    static void promise2_packingTakesNoNumber() {
        HilbertHutch hutch = withPoints(1);
        hutch.pack();
        due("the next number", 1, () -> hutch.add(0, 0, 0, 0));
    }

    static void promise2_the60thBoxIsAdded() {
        HilbertHutch hutch = withPoints(59);
        due("add()", 59, () -> hutch.add(255, 255, 255, 255));
        due("boxes()", 60, hutch::boxes);
        dueSides(hutch, 59, 255, 255, 255, 255);
        due("one of the places of all 60", true, () -> Checks.order(hutch).contains(59));
    }

    static void promise2_the61stBoxIsRefused() {
        HilbertHutch hutch = withPoints(60);
        due("add()", STATE, () -> hutch.add(0, 0, 0, 0));
        due("add() again", STATE, () -> hutch.add(0, 0, 255, 255));
        due("boxes()", 60, hutch::boxes);
        due("keyOf(60)", INDEX, () -> hutch.keyOf(60));
    }

    static void promise2_aRemovalMakesRoomForOneBox() {
        HilbertHutch hutch = withPoints(60);
        hutch.remove(30);
        due("add() with 59 boxes", 60, () -> hutch.add(0, 0, 0, 0));
        due("add() with 60 boxes", STATE, () -> hutch.add(0, 0, 0, 0));
    }

    static void promise2_packingMakesNoRoom() {
        HilbertHutch hutch = withPoints(60);
        hutch.pack();
        due("add()", STATE, () -> hutch.add(0, 0, 0, 0));
    }

    static void promise2_the100thBoxIsAdded() {
        HilbertHutch hutch = withPoints(60);
        for (int box = 0; box < 41; box++) {
            hutch.remove(box);
        }
        for (int box = 60; box < 99; box++) {
            hutch.add(0, 0, 0, 0);
        }
        due("the 100th add()", 99, () -> hutch.add(4, 5, 6, 7));
        dueSides(hutch, 99, 4, 5, 6, 7);
        due("boxes()", 59, hutch::boxes);
    }

    static void promise2_the101stBoxIsRefused() {
        HilbertHutch hutch = usedUp();
        hutch.remove(99);
        due("add() with 59 boxes", STATE, () -> hutch.add(0, 0, 0, 0));
        due("boxes()", 59, hutch::boxes);
        due("keyOf(99)", INDEX, () -> hutch.keyOf(99));
    }

    static void promise2_the101stBoxIsRefusedWithoutBoxes() {
        HilbertHutch hutch = new HilbertHutch();
        for (int box = 0; box < 100; box++) {
            hutch.add(1, 1, 1, 1);
            hutch.remove(box);
        }
        due("boxes()", 0, hutch::boxes);
        due("add()", STATE, () -> hutch.add(1, 1, 1, 1));
        due("boxes() behind it", 0, hutch::boxes);
        due("levels() behind it", 0, hutch::levels);
    }

    static void promise2_aBoxIsRefusedWith60BoxesAnd100Added() {
        HilbertHutch hutch = usedUp();
        due("boxes()", 60, hutch::boxes);
        due("add()", STATE, () -> hutch.add(0, 0, 0, 0));
    }

    static void promise2_wrongSidesGoBeforeTooManyBoxes() {
        HilbertHutch hutch = withPoints(60);
        due("add(0, 0, 256, 0)", ARGUMENT, () -> hutch.add(0, 0, 256, 0));
        due("add(-1, 0, 0, 0)", ARGUMENT, () -> hutch.add(-1, 0, 0, 0));
        due("add(0, 1, 0, 0)", ARGUMENT, () -> hutch.add(0, 1, 0, 0));
    }

    static void promise2_wrongSidesGoBeforeTooManyAdded() {
        HilbertHutch hutch = usedUp();
        hutch.remove(70);
        due("add(1, 0, 0, 0)", ARGUMENT, () -> hutch.add(1, 0, 0, 0));
        due("add(0, 0, 0, 256)", ARGUMENT, () -> hutch.add(0, 0, 0, 256));
    }

    // ---- remove: the numbers

    static void promise3_theFirstNumberCanBeRemoved() {
        HilbertHutch hutch = withPoints(3);
        due("remove(0)", 2, () -> hutch.remove(0));
        due("keyOf(0)", INDEX, () -> hutch.keyOf(0));
    }

    static void promise3_theLastNumberCanBeRemoved() {
        HilbertHutch hutch = usedUp();
        due("remove(99)", 59, () -> hutch.remove(99));
        due("keyOf(99)", INDEX, () -> hutch.keyOf(99));
    }

    static void promise3_aNumberBelow0IsRefused() {
        HilbertHutch hutch = usedUp();
        for (int box : BELOW_0) {
            due("remove(" + box + ")", INDEX, () -> hutch.remove(box));
        }
        due("boxes()", 60, hutch::boxes);
    }

    static void promise3_theNextNumberIsRefused() {
        HilbertHutch hutch = withPoints(3);
        due("remove(3)", INDEX, () -> hutch.remove(3));
        due("boxes()", 3, hutch::boxes);
    }

    static void promise3_aNumberAbove99IsRefused() {
        HilbertHutch hutch = usedUp();
        due("remove(100)", INDEX, () -> hutch.remove(100));
        for (int box : FAR_UP) {
            due("remove(" + box + ")", INDEX, () -> hutch.remove(box));
        }
        due("boxes()", 60, hutch::boxes);
    }

    static void promise3_aRemovedBoxIsRefused() {
        HilbertHutch hutch = withPoints(3);
        hutch.remove(1);
        due("remove(1)", INDEX, () -> hutch.remove(1));
        due("remove(1) once more", INDEX, () -> hutch.remove(1));
        due("boxes()", 2, hutch::boxes);
    }

    static void promise3_aRemovedBoxIsRefusedBehindPackingAndAdding() {
        HilbertHutch hutch = withPoints(3);
        hutch.remove(1);
        hutch.add(1, 0, 1, 0);
        hutch.pack();
        due("remove(1)", INDEX, () -> hutch.remove(1));
        due("boxes()", 3, hutch::boxes);
    }

    static void promise3_noBoxCanBeRemovedWithoutBoxes() {
        HilbertHutch hutch = withPoints(1);
        hutch.remove(0);
        due("remove(0)", INDEX, () -> hutch.remove(0));
        due("remove(1)", INDEX, () -> hutch.remove(1));
        due("boxes()", 0, hutch::boxes);
    }

    static void promise3_theLastBoxLeavesNone() {
        HilbertHutch hutch = withPoints(1);
        due("remove(0)", 0, () -> hutch.remove(0));
    }

    static void promise3_eachOf60BoxesCanBeRemoved() {
        HilbertHutch hutch = withPoints(60);
        for (int i = 0; i < 60; i++) {
            int box = i;
            due("remove(" + box + ")", 59 - box, () -> hutch.remove(box));
        }
    }

    static void promise3_oneOfTwoEqualBoxesIsRemoved() {
        HilbertHutch hutch = withBox(1, 2, 3, 4);
        hutch.add(1, 2, 3, 4);
        due("remove(0)", 1, () -> hutch.remove(0));
        due("boxAt(0)", 1, () -> hutch.boxAt(0));
        dueSides(hutch, 1, 1, 2, 3, 4);
    }

    // ---- boxes

    static void promise5_noBoxes() {
        HilbertHutch hutch = new HilbertHutch();
        due("boxes()", 0, hutch::boxes);
        hutch.add(0, 0, 0, 0);
        hutch.remove(0);
        due("boxes() when the only one is removed", 0, hutch::boxes);
        hutch.pack();
        due("boxes() when packed", 0, hutch::boxes);
    }

    static void promise5_oneBox() {
        due("boxes()", 1, () -> withPoints(1).boxes());
    }

    static void promise5_60Boxes() {
        due("boxes()", 60, () -> withPoints(60).boxes());
        due("boxes() with 100 added", 60, () -> usedUp().boxes());
    }

    static void promise5_refusedCallsAreNotCounted() {
        HilbertHutch hutch = withPoints(60);
        due("add()", STATE, () -> hutch.add(0, 0, 0, 0));
        due("boxes() behind a refused add()", 60, hutch::boxes);
        due("remove(60)", INDEX, () -> hutch.remove(60));
        due("boxes() behind a refused remove()", 60, hutch::boxes);
    }

    // ---- key

    static void promise6_theLeastKeyIsThatOfTheFirstPoint() {
        due("key(0, 0)", 0, () -> new HilbertHutch().key(0, 0));
    }

    static void promise6_theGreatestKeyIsThatOfTheLowerRightPoint() {
        due("key(255, 0)", 65535, () -> new HilbertHutch().key(255, 0));
    }

    static void promise6_theOtherCorners() {
        HilbertHutch hutch = new HilbertHutch();
        due("key(0, 255)", 21845, () -> hutch.key(0, 255));
        due("key(255, 255)", 43690, () -> hutch.key(255, 255));
    }

    static void promise6_theQuartersOfTheLastDigit() {
        HilbertHutch hutch = new HilbertHutch();
        // Behind seven exchanges of x and y, a and b of the last digit stand the other way round.
        due("key(0, 0)", 0, () -> hutch.key(0, 0));
        due("key(1, 0)", 1, () -> hutch.key(1, 0));
        due("key(1, 1)", 2, () -> hutch.key(1, 1));
        due("key(0, 1)", 3, () -> hutch.key(0, 1));
    }

    static void promise6_theQuartersOfTheFirstDigit() {
        HilbertHutch hutch = new HilbertHutch();
        due("key(127, 127)", 10922, () -> hutch.key(127, 127));
        due("key(127, 128)", 32767, () -> hutch.key(127, 128));
        due("key(128, 128)", 32768, () -> hutch.key(128, 128));
        due("key(128, 127)", 54613, () -> hutch.key(128, 127));
    }

    static void promise6_eachKeyFrom0To65535IsThatOfOnePoint() {
        boolean[] seen = new boolean[65536];
        for (int x = 0; x < 256; x++) {
            HilbertHutch hutch = new HilbertHutch();
            for (int y = 0; y < 256; y++) {
                int key = hutch.key(x, y);
                if (key < 0 || key > 65535 || seen[key]) {
                    due("key(" + x + ", " + y + ")", "a key of its own from 0 to 65535", () -> key);
                    return;
                }
                seen[key] = true;
            }
        }
    }

    static void promise6_pointsOfNextKeysAreNeighbours() {
        HilbertHutch hutch = new HilbertHutch();
        int[] keys = {0, 3, 15, 63, 255, 1023, 4095, 16383, 32767, 49151, 65534};
        for (int key : keys) {
            int[] one = Checks.pointAt(key);
            int[] next = Checks.pointAt(key + 1);
            due("key of the point " + key, key, () -> hutch.key(one[0], one[1]));
            due("key of the point " + (key + 1), key + 1, () -> hutch.key(next[0], next[1]));
            due("their steps", 1, () -> Math.abs(one[0] - next[0]) + Math.abs(one[1] - next[1]));
        }
    }

    static void promise6_xBelow0IsRefused() {
        HilbertHutch hutch = new HilbertHutch();
        for (int x : BELOW_0) {
            due("key(" + x + ", 0)", ARGUMENT, () -> hutch.key(x, 0));
            due("key(" + x + ", 255)", ARGUMENT, () -> hutch.key(x, 255));
        }
    }

    static void promise6_xAbove255IsRefused() {
        HilbertHutch hutch = new HilbertHutch();
        for (int x : FAR_UP) {
            due("key(" + x + ", 0)", ARGUMENT, () -> hutch.key(x, 0));
            due("key(" + x + ", 255)", ARGUMENT, () -> hutch.key(x, 255));
        }
    }

    static void promise6_yBelow0IsRefused() {
        HilbertHutch hutch = new HilbertHutch();
        for (int y : BELOW_0) {
            due("key(0, " + y + ")", ARGUMENT, () -> hutch.key(0, y));
            due("key(255, " + y + ")", ARGUMENT, () -> hutch.key(255, y));
        }
    }

    static void promise6_yAbove255IsRefused() {
        HilbertHutch hutch = new HilbertHutch();
        for (int y : FAR_UP) {
            due("key(0, " + y + ")", ARGUMENT, () -> hutch.key(0, y));
            due("key(255, " + y + ")", ARGUMENT, () -> hutch.key(255, y));
        }
    }

    // ---- keyOf

    private static void dueKeyOf(int x1, int y1, int x2, int y2, int x, int y) {
        HilbertHutch hutch = withBox(x1, y1, x2, y2);
        due("keyOf the box " + x1 + ", " + y1 + ", " + x2 + ", " + y2, hutch.key(x, y), () -> hutch.keyOf(0));
    }

    static void promise7_theKeyOfAPointIsThatOfTheBox() {
        dueKeyOf(0, 0, 0, 0, 0, 0);
        dueKeyOf(255, 0, 255, 0, 255, 0);
        dueKeyOf(0, 255, 0, 255, 0, 255);
        dueKeyOf(255, 255, 255, 255, 255, 255);
    }

    static void promise7_theMiddleOfXIsRoundedDown() {
        dueKeyOf(0, 0, 1, 0, 0, 0);
        dueKeyOf(0, 0, 3, 0, 1, 0);
        dueKeyOf(1, 0, 2, 0, 1, 0);
        dueKeyOf(0, 0, 255, 0, 127, 0);
        dueKeyOf(254, 0, 255, 0, 254, 0);
    }

    static void promise7_theMiddleOfYIsRoundedDown() {
        dueKeyOf(0, 0, 0, 1, 0, 0);
        dueKeyOf(0, 0, 0, 3, 0, 1);
        dueKeyOf(0, 1, 0, 2, 0, 1);
        dueKeyOf(0, 0, 0, 255, 0, 127);
        dueKeyOf(0, 254, 0, 255, 0, 254);
    }

    static void promise7_aMiddleWithoutARestIsKept() {
        dueKeyOf(0, 0, 2, 4, 1, 2);
        dueKeyOf(1, 1, 255, 255, 128, 128);
        dueKeyOf(253, 1, 255, 3, 254, 2);
    }

    static void promise7_bothMiddlesAreRoundedDown() {
        dueKeyOf(0, 0, 255, 255, 127, 127);
        dueKeyOf(3, 6, 4, 7, 3, 6);
    }

    static void promise7_theFirstAndTheLastNumber() {
        HilbertHutch hutch = usedUp();
        due("keyOf(99)", hutch.key(39, 1), () -> hutch.keyOf(99));
        due("keyOf(40)", hutch.key(40, 0), () -> hutch.keyOf(40));
        due("keyOf(39), removed", INDEX, () -> hutch.keyOf(39));
        due("keyOf(0), removed", INDEX, () -> hutch.keyOf(0));
        due("keyOf(100)", INDEX, () -> hutch.keyOf(100));
    }

    static void promise7_aNumberBelow0IsRefused() {
        HilbertHutch hutch = usedUp();
        for (int box : BELOW_0) {
            due("keyOf(" + box + ")", INDEX, () -> hutch.keyOf(box));
        }
    }

    static void promise7_aNumberNotYetUsedIsRefused() {
        HilbertHutch hutch = withPoints(3);
        due("keyOf(2)", hutch.key(2, 0), () -> hutch.keyOf(2));
        due("keyOf(3)", INDEX, () -> hutch.keyOf(3));
        due("keyOf(99)", INDEX, () -> hutch.keyOf(99));
        for (int box : FAR_UP) {
            due("keyOf(" + box + ")", INDEX, () -> hutch.keyOf(box));
        }
    }

    static void promise7_aRemovedBoxIsRefused() {
        HilbertHutch hutch = withPoints(3);
        hutch.remove(1);
        due("keyOf(1)", INDEX, () -> hutch.keyOf(1));
        due("keyOf(2)", hutch.key(2, 0), () -> hutch.keyOf(2));
    }

    // ---- sideOf

    static void promise8_side0IsTheLeftOne() {
        due("sideOf(0, 0)", 1, () -> withBox(1, 20, 130, 240).sideOf(0, 0));
    }

    static void promise8_side1IsTheLowerOne() {
        due("sideOf(0, 1)", 20, () -> withBox(1, 20, 130, 240).sideOf(0, 1));
    }

    static void promise8_side2IsTheRightOne() {
        due("sideOf(0, 2)", 130, () -> withBox(1, 20, 130, 240).sideOf(0, 2));
    }

    static void promise8_side3IsTheUpperOne() {
        due("sideOf(0, 3)", 240, () -> withBox(1, 20, 130, 240).sideOf(0, 3));
    }

    static void promise8_sidesOf0And255() {
        dueSides(withBox(0, 0, 255, 255), 0, 0, 0, 255, 255);
        dueSides(withBox(0, 0, 0, 0), 0, 0, 0, 0, 0);
        dueSides(withBox(255, 255, 255, 255), 0, 255, 255, 255, 255);
    }

    static void promise8_sideBelow0IsRefused() {
        HilbertHutch hutch = withBox(1, 20, 130, 240);
        for (int side : BELOW_0) {
            due("sideOf(0, " + side + ")", ARGUMENT, () -> hutch.sideOf(0, side));
        }
    }

    static void promise8_sideAbove3IsRefused() {
        HilbertHutch hutch = withBox(1, 20, 130, 240);
        for (int side = 4; side <= 64; side++) {
            int wrong = side;
            due("sideOf(0, " + wrong + ")", ARGUMENT, () -> hutch.sideOf(0, wrong));
        }
        for (int side : FAR_UP) {
            due("sideOf(0, " + side + ")", ARGUMENT, () -> hutch.sideOf(0, side));
        }
    }

    static void promise8_aNumberBelow0IsRefused() {
        HilbertHutch hutch = usedUp();
        for (int box : BELOW_0) {
            due("sideOf(" + box + ", 0)", INDEX, () -> hutch.sideOf(box, 0));
            due("sideOf(" + box + ", 3)", INDEX, () -> hutch.sideOf(box, 3));
        }
    }

    static void promise8_aNumberNotYetUsedIsRefused() {
        HilbertHutch hutch = withPoints(3);
        dueSides(hutch, 2, 2, 0, 2, 0);
        due("sideOf(3, 0)", INDEX, () -> hutch.sideOf(3, 0));
        due("sideOf(99, 3)", INDEX, () -> hutch.sideOf(99, 3));
        for (int box : FAR_UP) {
            due("sideOf(" + box + ", 0)", INDEX, () -> hutch.sideOf(box, 0));
        }
    }

    static void promise8_theNumbers99And100() {
        HilbertHutch hutch = usedUp();
        dueSides(hutch, 99, 39, 1, 39, 1);
        due("sideOf(100, 0)", INDEX, () -> hutch.sideOf(100, 0));
    }

    static void promise8_aRemovedBoxIsRefused() {
        HilbertHutch hutch = withPoints(3);
        hutch.remove(1);
        due("sideOf(1, 0)", INDEX, () -> hutch.sideOf(1, 0));
        due("sideOf(1, 3)", INDEX, () -> hutch.sideOf(1, 3));
        dueSides(hutch, 2, 2, 0, 2, 0);
    }

    static void promise8_aWrongSideGoesBeforeAWrongNumber() {
        HilbertHutch hutch = withPoints(3);
        hutch.remove(1);
        due("sideOf(1, 4), removed", ARGUMENT, () -> hutch.sideOf(1, 4));
        due("sideOf(3, -1)", ARGUMENT, () -> hutch.sideOf(3, -1));
        due("sideOf(-1, 4)", ARGUMENT, () -> hutch.sideOf(-1, 4));
        due("sideOf(100, -1)", ARGUMENT, () -> hutch.sideOf(100, -1));
        due("sideOf(0, 4) without boxes", ARGUMENT, () -> new HilbertHutch().sideOf(0, 4));
    }
}
