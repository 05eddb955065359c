import java.util.List;

/** Boundary cases of promises 16, 17, 18, 21 and 22: boxes that meet a box, and pairs that meet. */
public final class MeetingEdges extends EdgeTest {
    /** A question about the box of these sides. */
    private interface Question {
        Object about(HilbertHutch hutch, int x1, int y1, int x2, int y2);
    }

    private static final Question COUNT = HilbertHutch::count;
    private static final Question FOUND = (hutch, x1, y1, x2, y2) -> hutch.found(x1, y1, x2, y2, 0);
    private static final Question VISITS = HilbertHutch::visits;

    public static void main(String[] args) {
        runTestsOf(MeetingEdges.class);
    }

    private static HilbertHutch withBox(int x1, int y1, int x2, int y2) {
        HilbertHutch hutch = new HilbertHutch();
        hutch.add(x1, y1, x2, y2);
        return hutch;
    }

    private static HilbertHutch withEqualBoxes(int boxes) {
        HilbertHutch hutch = new HilbertHutch();
        for (int i = 0; i < boxes; i++) {
            hutch.add(9, 9, 12, 12);
        }
        return hutch;
    }

    private static HilbertHutch withoutBoxes() {
        HilbertHutch hutch = withEqualBoxes(6);
        for (int box = 0; box < 6; box++) {
            hutch.remove(box);
        }
        return hutch;
    }

    /** 60 equal boxes are there and 100 have been added: 40 to 99. */
    private static HilbertHutch usedUp() {
        HilbertHutch hutch = withEqualBoxes(60);
        for (int box = 0; box < 40; box++) {
            hutch.remove(box);
            hutch.add(9, 9, 12, 12);
        }
        return hutch;
    }

    private static String text(int... sides) {
        return sides[0] + ", " + sides[1] + ", " + sides[2] + ", " + sides[3];
    }

    private static void dueOf(Question question, Object want, HilbertHutch hutch, int x1, int y1, int x2, int y2) {
        due("asked of " + text(x1, y1, x2, y2), want, () -> question.about(hutch, x1, y1, x2, y2));
    }

    private static void dueRefused(Question question, HilbertHutch hutch, int x1, int y1, int x2, int y2) {
        dueOf(question, ARGUMENT, hutch, x1, y1, x2, y2);
    }

    /** Sides 0 and 255 and equal sides are allowed; one box, of all points, meets every box. */
    private static void dueSidesInRange(Question question, Object want) {
        HilbertHutch hutch = withBox(0, 0, 255, 255);
        dueOf(question, want, hutch, 0, 0, 255, 255);
        dueOf(question, want, hutch, 0, 0, 0, 0);
        dueOf(question, want, hutch, 255, 0, 255, 0);
        dueOf(question, want, hutch, 0, 255, 0, 255);
        dueOf(question, want, hutch, 255, 255, 255, 255);
        dueOf(question, want, hutch, 100, 200, 100, 200);
        dueOf(question, want, hutch, 200, 0, 255, 10);
        dueOf(question, want, hutch, 0, 200, 10, 255);
    }

    private static void dueLowSidesRefused(Question question) {
        HilbertHutch hutch = withBox(0, 0, 255, 255);
        for (int side : BELOW_0) {
            dueRefused(question, hutch, side, 7, 9, 9);
            dueRefused(question, hutch, 7, side, 9, 9);
            dueRefused(question, hutch, 0, 7, side, 9);
            dueRefused(question, hutch, 7, 0, 9, side);
            dueRefused(question, hutch, side, 7, side, 9);
            dueRefused(question, hutch, 7, side, 9, side);
        }
    }

    private static void dueHighSidesRefused(Question question) {
        HilbertHutch hutch = withBox(0, 0, 255, 255);
        for (int side : FAR_UP) {
            dueRefused(question, hutch, side, 7, 255, 9);
            dueRefused(question, hutch, 7, side, 9, 255);
            dueRefused(question, hutch, 7, 7, side, 9);
            dueRefused(question, hutch, 7, 7, 9, side);
            dueRefused(question, hutch, side, 7, side, 9);
            dueRefused(question, hutch, 7, side, 9, side);
        }
    }

    private static void dueCrossedSidesRefused(Question question) {
        HilbertHutch hutch = withBox(0, 0, 255, 255);
        dueRefused(question, hutch, 1, 0, 0, 255);
        dueRefused(question, hutch, 101, 0, 100, 255);
        dueRefused(question, hutch, 255, 0, 254, 255);
        dueRefused(question, hutch, 255, 0, 0, 255);
        dueRefused(question, hutch, 0, 1, 255, 0);
        dueRefused(question, hutch, 0, 101, 255, 100);
        dueRefused(question, hutch, 0, 255, 255, 254);
        dueRefused(question, hutch, 0, 255, 255, 0);
        dueRefused(question, hutch, 9, 9, 8, 8);
    }

    private static void dueSidesRefusedWithoutBoxes(Question question) {
        dueRefused(question, new HilbertHutch(), 0, 0, 256, 0);
        dueRefused(question, new HilbertHutch(), -1, 0, 0, 0);
        dueRefused(question, new HilbertHutch(), 1, 0, 0, 0);
        dueRefused(question, withoutBoxes(), 0, 1, 0, 0);
    }

    // ---- count

    static void promise16_sidesInRange() {
        dueSidesInRange(COUNT, 1);
    }

    static void promise16_sidesBelow0AreRefused() {
        dueLowSidesRefused(COUNT);
    }

    static void promise16_sidesAbove255AreRefused() {
        dueHighSidesRefused(COUNT);
    }

    static void promise16_rightAndUpperSidesBelowTheOthersAreRefused() {
        dueCrossedSidesRefused(COUNT);
    }

    static void promise16_wrongSidesAreRefusedWithoutBoxes() {
        dueSidesRefusedWithoutBoxes(COUNT);
    }

    static void promise16_noBoxToMeet() {
        due("count of all", 0, () -> new HilbertHutch().count(0, 0, 255, 255));
        due("count when all boxes are removed", 0, () -> withoutBoxes().count(0, 0, 255, 255));
    }

    static void promise16_60BoxesToMeet() {
        due("count of 60", 60, () -> withEqualBoxes(60).count(0, 0, 255, 255));
        due("count of 60, 100 added", 60, () -> usedUp().count(12, 12, 12, 12));
        due("count of none of 60", 0, () -> usedUp().count(13, 0, 255, 255));
    }

    static void promise16_boxesMeetAtTheLeftSide() {
        dueOf(COUNT, 1, withBox(100, 50, 110, 60), 90, 50, 100, 60);
    }

    static void promise16_boxesDoNotMeetOneLeftOfTheLeftSide() {
        dueOf(COUNT, 0, withBox(100, 50, 110, 60), 90, 50, 99, 60);
    }

    static void promise16_boxesMeetAtTheRightSide() {
        dueOf(COUNT, 1, withBox(100, 50, 110, 60), 110, 50, 120, 60);
    }

    static void promise16_boxesDoNotMeetOneRightOfTheRightSide() {
        dueOf(COUNT, 0, withBox(100, 50, 110, 60), 111, 50, 120, 60);
    }

    static void promise16_boxesMeetAtTheLowerSide() {
        dueOf(COUNT, 1, withBox(100, 50, 110, 60), 100, 40, 110, 50);
    }

    static void promise16_boxesDoNotMeetOneBelowTheLowerSide() {
        dueOf(COUNT, 0, withBox(100, 50, 110, 60), 100, 40, 110, 49);
    }

    static void promise16_boxesMeetAtTheUpperSide() {
        dueOf(COUNT, 1, withBox(100, 50, 110, 60), 100, 60, 110, 70);
    }

    static void promise16_boxesDoNotMeetOneAboveTheUpperSide() {
        dueOf(COUNT, 0, withBox(100, 50, 110, 60), 100, 61, 110, 70);
    }

    static void promise16_boxesMeetInEachCorner() {
        HilbertHutch hutch = withBox(100, 50, 110, 60);
        dueOf(COUNT, 1, hutch, 90, 40, 100, 50);
        dueOf(COUNT, 1, hutch, 110, 40, 120, 50);
        dueOf(COUNT, 1, hutch, 90, 60, 100, 70);
        dueOf(COUNT, 1, hutch, 110, 60, 120, 70);
    }

    static void promise16_boxesDoNotMeetBesideACorner() {
        HilbertHutch hutch = withBox(100, 50, 110, 60);
        int[][] beside = {
            {90, 40, 99, 49}, {90, 40, 100, 49}, {90, 40, 99, 50}, {111, 40, 120, 49}, {110, 40, 120, 49},
            {111, 40, 120, 50}, {90, 61, 99, 70}, {90, 61, 100, 70}, {90, 60, 99, 70}, {111, 61, 120, 70},
            {110, 61, 120, 70}, {111, 60, 120, 70},
        };
        for (int[] s : beside) {
            dueOf(COUNT, 0, hutch, s[0], s[1], s[2], s[3]);
        }
    }

    static void promise16_boxesThatCrossMeet() {
        HilbertHutch hutch = withBox(100, 50, 110, 60);
        dueOf(COUNT, 1, hutch, 103, 0, 105, 255);
        dueOf(COUNT, 1, hutch, 0, 53, 255, 55);
    }

    static void promise16_aBoxInsideAnotherMeetsIt() {
        HilbertHutch hutch = withBox(100, 50, 110, 60);
        dueOf(COUNT, 1, hutch, 105, 55, 105, 55);
        dueOf(COUNT, 1, hutch, 0, 0, 255, 255);
        dueOf(COUNT, 1, hutch, 100, 50, 110, 60);
    }

    static void promise16_boxesOfOnePoint() {
        HilbertHutch hutch = withBox(0, 0, 0, 0);
        dueOf(COUNT, 1, hutch, 0, 0, 0, 0);
        dueOf(COUNT, 0, hutch, 1, 0, 1, 0);
        dueOf(COUNT, 0, hutch, 0, 1, 0, 1);
        HilbertHutch last = withBox(255, 255, 255, 255);
        dueOf(COUNT, 1, last, 255, 255, 255, 255);
        dueOf(COUNT, 0, last, 254, 255, 254, 255);
        dueOf(COUNT, 0, last, 0, 0, 0, 0);
    }

    static void promise16_aRemovedBoxIsNotMet() {
        HilbertHutch hutch = withEqualBoxes(2);
        hutch.remove(0);
        dueOf(COUNT, 1, hutch, 0, 0, 255, 255);
        hutch.remove(1);
        dueOf(COUNT, 0, hutch, 0, 0, 255, 255);
    }

    // ---- found

    static void promise17_sidesInRange() {
        dueSidesInRange(FOUND, 0);
    }

    static void promise17_sidesBelow0AreRefused() {
        dueLowSidesRefused(FOUND);
    }

    static void promise17_sidesAbove255AreRefused() {
        dueHighSidesRefused(FOUND);
    }

    static void promise17_rightAndUpperSidesBelowTheOthersAreRefused() {
        dueCrossedSidesRefused(FOUND);
    }

    static void promise17_wrongSidesAreRefusedWithoutBoxes() {
        dueSidesRefusedWithoutBoxes(FOUND);
    }

    private static void dueFound(Object want, HilbertHutch hutch, int x1, int y1, int x2, int y2, int place) {
        due("found of " + text(x1, y1, x2, y2) + ", " + place, want, () -> hutch.found(x1, y1, x2, y2, place));
    }

    static void promise17_boxesAreFoundAtEachSideAndNotBesideIt() {
        HilbertHutch hutch = withBox(100, 50, 110, 60);
        dueFound(0, hutch, 90, 50, 100, 60, 0);
        dueFound(INDEX, hutch, 90, 50, 99, 60, 0);
        dueFound(0, hutch, 110, 50, 120, 60, 0);
        dueFound(INDEX, hutch, 111, 50, 120, 60, 0);
        dueFound(0, hutch, 100, 40, 110, 50, 0);
        dueFound(INDEX, hutch, 100, 40, 110, 49, 0);
        dueFound(0, hutch, 100, 60, 110, 70, 0);
        dueFound(INDEX, hutch, 100, 61, 110, 70, 0);
    }

    static void promise17_theFirstPlaceAndTheLast() {
        HilbertHutch hutch = new HilbertHutch();
        Checks.addKeys(hutch, 15, 2, 14, 0);
        dueFound(3, hutch, 0, 0, 3, 3, 0);
        dueFound(0, hutch, 0, 0, 3, 3, 3);
        dueFound(INDEX, hutch, 0, 0, 3, 3, 4);
    }

    static void promise17_theOnlyPlace() {
        HilbertHutch hutch = new HilbertHutch();
        Checks.addKeys(hutch, 15, 2, 14, 0);
        dueFound(1, hutch, 1, 1, 1, 1, 0);
        dueFound(INDEX, hutch, 1, 1, 1, 1, 1);
    }

    static void promise17_thePlacesAreCountedAmongTheBoxesThatMeetAlone() {
        HilbertHutch hutch = new HilbertHutch();
        Checks.addKeys(hutch, 15, 2, 14, 0);
        dueFound(2, hutch, 2, 0, 3, 0, 0);
        dueFound(0, hutch, 2, 0, 3, 0, 1);
        dueFound(INDEX, hutch, 2, 0, 3, 0, 2);
        dueFound(INDEX, hutch, 2, 0, 3, 0, 3);
    }

    static void promise17_aPlaceBelow0IsRefused() {
        HilbertHutch hutch = withEqualBoxes(60);
        for (int place : BELOW_0) {
            dueFound(INDEX, hutch, 0, 0, 255, 255, place);
            dueFound(INDEX, hutch, 100, 100, 255, 255, place);
        }
    }

    static void promise17_thePlaces59And60() {
        HilbertHutch hutch = usedUp();
        dueFound(40, hutch, 0, 0, 255, 255, 0);
        dueFound(99, hutch, 0, 0, 255, 255, 59);
        dueFound(INDEX, hutch, 0, 0, 255, 255, 60);
        for (int place : FAR_UP) {
            dueFound(INDEX, hutch, 0, 0, 255, 255, place);
        }
    }

    static void promise17_noPlaceWhereNoBoxMeets() {
        dueFound(INDEX, withEqualBoxes(60), 13, 0, 255, 255, 0);
        dueFound(INDEX, new HilbertHutch(), 0, 0, 255, 255, 0);
        dueFound(INDEX, withoutBoxes(), 0, 0, 255, 255, 0);
    }

    static void promise17_equalKeysInTheOrderOfTheNumbers() {
        HilbertHutch hutch = withEqualBoxes(6);
        hutch.remove(0);
        for (int place = 0; place < 5; place++) {
            dueFound(place + 1, hutch, 0, 0, 255, 255, place);
        }
        dueFound(INDEX, hutch, 0, 0, 255, 255, 5);
    }

    static void promise17_wrongSidesGoBeforeAWrongPlace() {
        HilbertHutch hutch = withEqualBoxes(2);
        dueFound(ARGUMENT, hutch, -1, 0, 255, 255, 2);
        dueFound(ARGUMENT, hutch, 0, -1, 255, 255, -1);
        dueFound(ARGUMENT, hutch, 0, 0, 256, 255, 2);
        dueFound(ARGUMENT, hutch, 0, 0, 255, 256, -1);
        dueFound(ARGUMENT, hutch, 1, 0, 0, 255, 2);
        dueFound(ARGUMENT, hutch, 0, 1, 255, 0, Integer.MAX_VALUE);
        dueFound(ARGUMENT, new HilbertHutch(), 0, 0, 0, 256, 0);
    }

    // ---- visits

    static void promise18_sidesInRange() {
        dueSidesInRange(VISITS, 1);
    }

    static void promise18_sidesBelow0AreRefused() {
        dueLowSidesRefused(VISITS);
    }

    static void promise18_sidesAbove255AreRefused() {
        dueHighSidesRefused(VISITS);
    }

    static void promise18_rightAndUpperSidesBelowTheOthersAreRefused() {
        dueCrossedSidesRefused(VISITS);
    }

    static void promise18_wrongSidesAreRefusedWithoutBoxes() {
        dueSidesRefusedWithoutBoxes(VISITS);
    }

    static void promise18_noNodeWithoutBoxes() {
        due("visits of all", 0, () -> new HilbertHutch().visits(0, 0, 255, 255));
        due("visits when all boxes are removed", 0, () -> withoutBoxes().visits(0, 0, 255, 255));
    }

    static void promise18_theNodesOfAllLevelsAreCounted() {
        due("visits of one leaf", 1, () -> Planted.of("4").made().visits(0, 0, 255, 255));
        due("visits of two levels", 3, () -> Planted.of("3 2/2").made().visits(0, 0, 255, 255));
        due("visits of three levels", 8, () -> Planted.of("4 4 4 4 1/4 1/2").made().visits(0, 0, 255, 255));
        Planted four = Planted.of("4 4 2 2 2 2 2 2 2 2 2 2 2 2 2/4 4 4 3/4");
        four.addTo(0);
        due("visits of four levels", 16 + 5 + 2 + 1, () -> four.made().visits(0, 0, 255, 255));
    }

    static void promise18_60BoxesInAllNodes() {
        HilbertHutch hutch = withEqualBoxes(60);
        hutch.pack();
        due("visits of all", 15 + 4 + 1, () -> hutch.visits(12, 12, 12, 12));
        due("visits beside all", 0, () -> hutch.visits(13, 12, 13, 12));
    }

    static void promise18_aCoverMeetsAtEachSideAndNotBesideIt() {
        // The cover of both boxes is that of the root, a leaf: 100, 50, 110, 60.
        HilbertHutch hutch = withBox(100, 50, 101, 51);
        hutch.add(109, 59, 110, 60);
        dueOf(VISITS, 1, hutch, 90, 50, 100, 60);
        dueOf(VISITS, 0, hutch, 90, 50, 99, 60);
        dueOf(VISITS, 1, hutch, 110, 50, 120, 60);
        dueOf(VISITS, 0, hutch, 111, 50, 120, 60);
        dueOf(VISITS, 1, hutch, 100, 40, 110, 50);
        dueOf(VISITS, 0, hutch, 100, 40, 110, 49);
        dueOf(VISITS, 1, hutch, 100, 60, 110, 70);
        dueOf(VISITS, 0, hutch, 100, 61, 110, 70);
    }

    static void promise18_aCoverMeetsWhereNoBoxDoes() {
        HilbertHutch hutch = withBox(100, 50, 101, 51);
        hutch.add(109, 59, 110, 60);
        dueOf(COUNT, 0, hutch, 105, 55, 105, 55);
        dueOf(VISITS, 1, hutch, 105, 55, 105, 55);
        dueOf(VISITS, 1, hutch, 110, 50, 110, 50);
    }

    static void promise18_theRootMeetsWhereNoLeafDoes() {
        // Leaves of the points of the keys 0 to 3 and, far away, of 65535 and the one before.
        HilbertHutch hutch = new HilbertHutch();
        Checks.addKeys(hutch, 0, 1, 2, 65534, 65535);
        dueShape("3 2/2", hutch);
        dueOf(VISITS, 1, hutch, 100, 0, 100, 0);
        dueOf(VISITS, 2, hutch, 1, 1, 1, 1);
        dueOf(VISITS, 2, hutch, 255, 0, 255, 0);
        dueOf(VISITS, 3, hutch, 1, 0, 255, 0);
        dueOf(VISITS, 0, hutch, 0, 2, 255, 255);
    }

    static void promise18_theCoversFollowARemoval() {
        HilbertHutch hutch = withBox(100, 50, 101, 51);
        hutch.add(109, 59, 110, 60);
        hutch.remove(1);
        dueOf(VISITS, 0, hutch, 105, 55, 105, 55);
        dueOf(VISITS, 1, hutch, 101, 51, 105, 55);
    }

    // ---- pairs

    static void promise21_noPairWithoutBoxes() {
        due("pairs() of a new tree", 0, () -> new HilbertHutch().pairs());
        due("pairs() when all boxes are removed", 0, () -> withoutBoxes().pairs());
    }

    static void promise21_oneBoxIsNoPair() {
        due("pairs()", 0, () -> withBox(0, 0, 255, 255).pairs());
    }

    static void promise21_twoEqualBoxesAreOnePair() {
        due("pairs()", 1, () -> withEqualBoxes(2).pairs());
    }

    private static void duePairs(int want, int x1, int y1, int x2, int y2) {
        HilbertHutch hutch = withBox(100, 50, 110, 60);
        hutch.add(x1, y1, x2, y2);
        due("pairs() with " + text(x1, y1, x2, y2), want, hutch::pairs);
        HilbertHutch turned = withBox(x1, y1, x2, y2);
        turned.add(100, 50, 110, 60);
        due("pairs() behind " + text(x1, y1, x2, y2), want, turned::pairs);
    }

    static void promise21_boxesThatTouchAtOneSideAreAPair() {
        duePairs(1, 90, 50, 100, 60);
        duePairs(1, 110, 50, 120, 60);
        duePairs(1, 100, 40, 110, 50);
        duePairs(1, 100, 60, 110, 70);
    }

    static void promise21_boxesSideBySideAreNoPair() {
        duePairs(0, 90, 50, 99, 60);
        duePairs(0, 111, 50, 120, 60);
        duePairs(0, 100, 40, 110, 49);
        duePairs(0, 100, 61, 110, 70);
    }

    static void promise21_boxesThatTouchInACornerAreAPair() {
        duePairs(1, 90, 40, 100, 50);
        duePairs(1, 110, 60, 120, 70);
        duePairs(1, 90, 60, 100, 70);
        duePairs(1, 110, 40, 120, 50);
    }

    static void promise21_boxesCornerByCornerAreNoPair() {
        duePairs(0, 90, 40, 99, 49);
        duePairs(0, 111, 61, 120, 70);
        duePairs(0, 90, 61, 99, 70);
        duePairs(0, 111, 40, 120, 49);
    }

    static void promise21_boxesThatCrossAreAPair() {
        duePairs(1, 103, 0, 105, 255);
        duePairs(1, 0, 53, 255, 55);
        duePairs(1, 105, 55, 105, 55);
    }

    static void promise21_60BoxesAre1770Pairs() {
        due("pairs()", 1770, () -> withEqualBoxes(60).pairs());
        due("pairs() with 100 added", 1770, () -> usedUp().pairs());
    }

    static void promise21_aRemovedBoxIsInNoPair() {
        HilbertHutch hutch = withEqualBoxes(3);
        hutch.remove(1);
        due("pairs()", 1, hutch::pairs);
        hutch.remove(0);
        due("pairs() of one box", 0, hutch::pairs);
    }

    static void promise21_thePairsDoNotDependOnTheLeaves() {
        HilbertHutch hutch = withBox(0, 0, 0, 0);
        Checks.addKeys(hutch, 1, 2, 3, 4, 5);
        hutch.add(0, 0, 255, 255);
        due("pairs()", 6, hutch::pairs);
        hutch.pack();
        due("pairs() when packed", 6, hutch::pairs);
    }

    // ---- pair

    static void promise22_theFirstPlaceAndTheLast() {
        HilbertHutch hutch = withEqualBoxes(3);
        due("pair(0)", 1, () -> hutch.pair(0));
        due("pair(1)", 2, () -> hutch.pair(1));
        due("pair(2)", 102, () -> hutch.pair(2));
        due("pair(3)", INDEX, () -> hutch.pair(3));
    }

    static void promise22_theOnlyPair() {
        HilbertHutch hutch = withEqualBoxes(2);
        due("pair(0)", 1, () -> hutch.pair(0));
        due("pair(1)", INDEX, () -> hutch.pair(1));
        due("pair(-1)", INDEX, () -> hutch.pair(-1));
    }

    static void promise22_aPlaceBelow0IsRefused() {
        HilbertHutch hutch = withEqualBoxes(60);
        for (int place : BELOW_0) {
            due("pair(" + place + ")", INDEX, () -> hutch.pair(place));
        }
    }

    static void promise22_thePlaces1769And1770() {
        HilbertHutch hutch = usedUp();
        due("pair(0)", 4041, () -> hutch.pair(0));
        due("pair(58)", 4099, () -> hutch.pair(58));
        due("pair(59)", 4142, () -> hutch.pair(59));
        due("pair(1769)", 9899, () -> hutch.pair(1769));
        due("pair(1770)", INDEX, () -> hutch.pair(1770));
        for (int place : new int[] {65535, 65536, 1 << 24, 1 << 30, Integer.MAX_VALUE}) {
            due("pair(" + place + ")", INDEX, () -> hutch.pair(place));
        }
    }

    static void promise22_noPlaceWithoutPairs() {
        due("pair(0) of a new tree", INDEX, () -> new HilbertHutch().pair(0));
        due("pair(0) of one box", INDEX, () -> withEqualBoxes(1).pair(0));
        due("pair(0) when all boxes are removed", INDEX, () -> withoutBoxes().pair(0));
        HilbertHutch apart = Checks.withBoxes(60);
        due("pair(0) of boxes apart", INDEX, () -> apart.pair(0));
    }

    static void promise22_thePairsComeByTheirNumbersAndNotByTheirOrder() {
        // 0 meets 1, and 3 meets all others.
        HilbertHutch hutch = new HilbertHutch();
        hutch.add(250, 0, 255, 4);
        hutch.add(240, 0, 250, 4);
        hutch.add(0, 6, 3, 255);
        hutch.add(0, 0, 255, 8);
        due("the order", List.of(3, 2, 1, 0), () -> Checks.order(hutch));
        int[] pairs = {1, 3, 103, 203};
        for (int i = 0; i < pairs.length; i++) {
            int place = i;
            due("pair(" + place + ")", pairs[i], () -> hutch.pair(place));
        }
        due("pair(4)", INDEX, () -> hutch.pair(4));
    }

    static void promise22_thePlacesFollowARemoval() {
        HilbertHutch hutch = withEqualBoxes(4);
        hutch.remove(1);
        due("pair(0)", 2, () -> hutch.pair(0));
        due("pair(1)", 3, () -> hutch.pair(1));
        due("pair(2)", 203, () -> hutch.pair(2));
        due("pair(3)", INDEX, () -> hutch.pair(3));
    }
}
