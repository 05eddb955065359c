/** Boundary cases of removing (promise 3): nodes that get too small, and how the tree gets lower. */
public final class RemovingEdges extends EdgeTest {
    public static void main(String[] args) {
        runTestsOf(RemovingEdges.class);
    }

    /** Takes a box out of a leaf of a tree of one shape; another is due. */
    private static void dueAfterRemovingFrom(int leaf, String shape, String want) {
        Planted tree = Planted.of(shape);
        dueTree(shape, tree);
        tree.removeFrom(leaf);
        dueTree(want, tree);
    }

    private static void dueAfterRemovingAt(int place, String shape, String want) {
        Planted tree = Planted.of(shape);
        dueTree(shape, tree);
        tree.removeAt(place);
        dueTree(want, tree);
    }

    private static Planted fourLevels() {
        Planted tree = Planted.of("4 4 2 2 2 2 2 2 2 2 2 2 2 2 2/4 4 4 3/4");
        tree.addTo(0);
        dueTree("3 3 3 2 2 2 2 2 2 2 2 2 2 2 2 2/3 3 3 4 3/3 2/2", tree);
        return tree;
    }

    // ---- a leaf that is the root

    static void promise3_aRootMayHaveOneBox() {
        dueAfterRemovingFrom(0, "2", "1");
    }

    static void promise3_aRootWithoutBoxesIsTakenOut() {
        dueAfterRemovingFrom(0, "1", "");
    }

    static void promise3_aRootOfFourBoxesLosesOneByOne() {
        Planted tree = Planted.of("4");
        String[] shapes = {"3", "2", "1", ""};
        for (String shape : shapes) {
            tree.removeAt(0);
            dueTree(shape, tree);
        }
    }

    static void promise3_behindTheLastBoxTheNextOneIsTheFirst() {
        Planted tree = Planted.of("1");
        tree.removeAt(0);
        tree.addKey(7);
        dueTree("1", tree);
        due("boxAt(0)", 1, () -> tree.made().boxAt(0));
    }

    // ---- a leaf with enough boxes

    static void promise3_aLeafKeepsTwoBoxes() {
        dueAfterRemovingFrom(0, "3 3/2", "2 3/2");
        dueAfterRemovingFrom(1, "3 3/2", "3 2/2");
        dueAfterRemovingFrom(1, "2 3 2/3", "2 2 2/3");
    }

    static void promise3_anyBoxOfALeafMayGo() {
        for (int place = 0; place < 4; place++) {
            dueAfterRemovingAt(place, "4 4 4/3", "3 4 4/3");
            dueAfterRemovingAt(4 + place, "4 4 4/3", "4 3 4/3");
            dueAfterRemovingAt(8 + place, "4 4 4/3", "4 4 3/3");
        }
    }

    static void promise3_aLeafOfTwoWhoseNeighbourLosesABoxStays() {
        dueAfterRemovingFrom(1, "2 4 2/3", "2 3 2/3");
    }

    static void promise3_aLeafLeftWithOneByPackingStaysWhenAnotherOneLoses() {
        dueAfterRemovingFrom(0, "3 1/2", "2 1/2");
        dueAfterRemovingFrom(1, "2 4 1/3", "2 3 1/3");
    }

    static void promise3_theNextBoxGoesToTheLeafWhoseLastBoxIsLeft() {
        // Without its last box, a leaf ends with the one before, so that a key between both goes to the next leaf.
        Planted tree = Planted.of("3 3/2");
        int last = tree.keyAt(2);
        tree.removeAt(2);
        tree.addKey(last - 1);
        dueTree("2 4/2", tree);
    }

    static void promise3_theNextBoxGoesToTheNodeWhoseLastBoxIsLeft() {
        Planted tree = Planted.of("2 3 2 2/2 2/2");
        int last = tree.keyAt(4);
        tree.removeAt(4);
        tree.addKey(last - 1);
        dueTree("2 2 3 2/2 2/2", tree);
    }

    static void promise3_theNextBoxGoesToALeafThatHasGotMoreToTheRight() {
        // The first leaf gets two boxes of the second one, and with them the keys up to theirs.
        Planted tree = Planted.of("2 4 2/3");
        tree.removeAt(0);
        tree.addKey(tree.keyAt(2) - 1);
        dueTree("4 2 2/3", tree);
        tree.addKey(tree.keyAt(3) + 1);
        dueTree("4 3 2/3", tree);
    }

    static void promise3_theNextBoxGoesToALeafThatHasGivenABoxToTheRight() {
        Planted tree = Planted.of("4 2/2");
        tree.removeAt(5);
        dueTree("3 2/2", tree);
        tree.addKey(tree.keyAt(2) + 1);
        dueTree("3 3/2", tree);
        tree.addKey(tree.keyAt(2) - 1);
        dueTree("4 3/2", tree);
    }

    // ---- a leaf that is too small, with a partner to the right

    static void promise3_aLeafOfOneAndARightOneOfOneBecomeOne() {
        dueAfterRemovingFrom(1, "2 2 1/3", "2 2/2");
        dueAfterRemovingFrom(0, "2 1/2", "2");
    }

    static void promise3_aLeafOfOneAndARightOneOfTwoBecomeOne() {
        dueAfterRemovingFrom(0, "2 2 2/3", "3 2/2");
    }

    static void promise3_aLeafOfOneAndARightOneOfThreeBecomeOneOfFour() {
        dueAfterRemovingFrom(0, "2 3 2/3", "4 2/2");
    }

    static void promise3_aLeafOfOneSharesFiveWithARightOneOfFour() {
        dueAfterRemovingFrom(0, "2 4 2/3", "3 2 2/3");
        dueAfterRemovingFrom(0, "2 4/2", "3 2/2");
    }

    // ---- a leaf that is too small, with a partner to the left

    static void promise3_aLastLeafOfOneAndALeftOneOfTwoBecomeOne() {
        dueAfterRemovingFrom(2, "2 2 2/3", "2 3/2");
    }

    static void promise3_aLastLeafOfOneAndALeftOneOfThreeBecomeOneOfFour() {
        dueAfterRemovingFrom(2, "2 3 2/3", "2 4/2");
    }

    static void promise3_aLastLeafOfOneSharesFiveWithALeftOneOfFour() {
        dueAfterRemovingFrom(2, "2 4 2/3", "2 3 2/3");
        dueAfterRemovingFrom(1, "4 2/2", "3 2/2");
    }

    static void promise3_aLastLeafOfNoneIsTakenOut() {
        dueAfterRemovingFrom(2, "2 2 1/3", "2 2/2");
        dueAfterRemovingFrom(2, "2 3 1/3", "2 3/2");
    }

    static void promise3_aLastLeafOfNoneGetsNothingFromALeftOneOfFour() {
        dueAfterRemovingFrom(2, "2 4 1/3", "2 4/2");
        dueAfterRemovingFrom(1, "4 1/2", "4");
    }

    // ---- which leaf is the partner

    static void promise3_theRightLeafGoesBeforeTheLeftOne() {
        dueAfterRemovingFrom(1, "2 2 3/3", "2 4/2");
        dueAfterRemovingFrom(1, "3 2 2/3", "3 3/2");
    }

    static void promise3_aRightLeafToJoinGoesBeforeALeftOneToShareWith() {
        dueAfterRemovingFrom(1, "4 2 2/3", "4 3/2");
        dueAfterRemovingFrom(1, "4 2 3/3", "4 4/2");
    }

    static void promise3_aRightLeafToShareWithGoesBeforeALeftOneToJoin() {
        dueAfterRemovingFrom(1, "2 2 4/3", "2 3 2/3");
        dueAfterRemovingFrom(1, "3 2 4/3", "3 3 2/3");
    }

    static void promise3_theNextLeafGoesBeforeOneFartherAway() {
        dueAfterRemovingFrom(0, "2 4 2 2/4", "3 2 2 2/4");
        dueAfterRemovingFrom(3, "2 2 4 2/4", "2 2 3 2/4");
    }

    static void promise3_theLastLeafOfANodeGoesToTheLeft() {
        dueAfterRemovingFrom(3, "2 2 2 2 2 2/4 2/2", "2 2 3 2 2/3 2/2");
        dueAfterRemovingFrom(3, "2 2 3 2 2 2/4 2/2", "2 2 4 2 2/3 2/2");
        dueAfterRemovingFrom(3, "2 2 4 2 2 2/4 2/2", "2 2 3 2 2 2/4 2/2");
    }

    static void promise3_theFirstLeafOfANodeGoesToTheRight() {
        dueAfterRemovingFrom(4, "2 2 2 2 2 2 2/4 3/2", "2 2 2 2 3 2/4 2/2");
        dueAfterRemovingFrom(4, "2 2 2 4 2 4 2/4 3/2", "2 2 2 4 3 2 2/4 3/2");
    }

    // ---- a leaf without a partner

    static void promise3_anOnlyLeafStaysWithOneBox() {
        dueAfterRemovingFrom(4, "2 2 2 2 2/4 1/2", "2 2 2 2 1/4 1/2");
        dueAfterRemovingFrom(2, "2 2 2/2 1/2", "2 2 1/2 1/2");
    }

    static void promise3_anOnlyLeafOfThreeOrFourLosesABox() {
        dueAfterRemovingFrom(4, "2 2 2 2 3/4 1/2", "2 2 2 2 2/4 1/2");
        dueAfterRemovingFrom(4, "2 2 2 2 4/4 1/2", "2 2 2 2 3/4 1/2");
    }

    static void promise3_anOnlyLeafWithoutBoxesIsTakenOut() {
        dueAfterRemovingFrom(4, "2 2 2 2 1/4 1/2", "2 2 2 2/4");
    }

    static void promise3_anOnlyLeafThatHasStayedIsTakenOutByTheNextRemoval() {
        Planted tree = Planted.of("2 2 2 2 2/4 1/2");
        tree.removeFrom(4);
        tree.removeFrom(4);
        dueTree("2 2 2 2/4", tree);
    }

    static void promise3_anOnlyLeafThatHasStayedGrowsAgain() {
        Planted tree = Planted.of("2 2 2 2 2/4 1/2");
        tree.removeFrom(4);
        tree.addTo(4);
        dueTree("2 2 2 2 2/4 1/2", tree);
    }

    // ---- a higher node without entries

    static void promise3_aNodeWithoutLeavesIsTakenOut() {
        dueAfterRemovingFrom(2, "2 2 1/2 1/2", "2 2/2");
        dueAfterRemovingFrom(3, "2 2 2 1/3 1/2", "2 2 2/3");
        dueAfterRemovingFrom(4, "2 2 2 2 1/4 1/2", "2 2 2 2/4");
    }

    static void promise3_aNodeWithoutLeavesGetsNoneFromALeftOneOfFour() {
        dueAfterRemovingFrom(6, "2 2 2 2 2 2 1/2 4 1/3", "2 2 2 2 2 2/2 4/2");
    }

    // ---- higher nodes with enough entries

    static void promise3_aNodeKeepsTwoLeaves() {
        dueAfterRemovingFrom(0, "2 2 2 2 2/3 2/2", "3 2 2 2/2 2/2");
        dueAfterRemovingFrom(4, "2 2 2 2 2/2 3/2", "2 2 2 3/2 2/2");
    }

    static void promise3_aNodeWhoseLeavesShareLosesNone() {
        dueAfterRemovingFrom(0, "2 4 2 2/2 2/2", "3 2 2 2/2 2/2");
    }

    static void promise3_aNodeLeftWithOneByPackingStaysWhenItsLeafStays() {
        dueAfterRemovingFrom(2, "2 2 3/2 1/2", "2 2 2/2 1/2");
        dueAfterRemovingFrom(0, "3 2 2/2 1/2", "2 2 2/2 1/2");
    }

    static void promise3_aNodeLeftWithOneByPackingStaysWhenAnotherOneLoses() {
        dueAfterRemovingFrom(0, "2 2 2 2/3 1/2", "3 2 2/2 1/2");
    }

    // ---- a higher node that is too small, with a partner to the right

    static void promise3_aNodeOfOneAndARightOneOfOneBecomeOne() {
        dueAfterRemovingFrom(0, "2 2 2/2 1/2", "3 2/2");
        dueAfterRemovingFrom(2, "2 2 2 2 2/2 2 1/3", "2 2 3 2/2 2/2");
    }

    static void promise3_aNodeOfOneAndARightOneOfTwoBecomeOne() {
        dueAfterRemovingFrom(0, "2 2 2 2 2 2/2 2 2/3", "3 2 2 2 2/3 2/2");
    }

    static void promise3_aNodeOfOneAndARightOneOfThreeBecomeOneOfFour() {
        dueAfterRemovingFrom(0, "2 2 2 2 2 2 2/2 3 2/3", "3 2 2 2 2 2/4 2/2");
    }

    static void promise3_aNodeOfOneSharesFiveWithARightOneOfFour() {
        dueAfterRemovingFrom(0, "2 2 2 2 2 2 2 2/2 4 2/3", "3 2 2 2 2 2 2/3 2 2/3");
    }

    // ---- a higher node that is too small, with a partner to the left

    static void promise3_aLastNodeOfOneAndALeftOneOfTwoBecomeOne() {
        dueAfterRemovingFrom(5, "2 2 2 2 2 2/2 2 2/3", "2 2 2 2 3/2 3/2");
    }

    static void promise3_aLastNodeOfOneAndALeftOneOfThreeBecomeOneOfFour() {
        dueAfterRemovingFrom(6, "2 2 2 2 2 2 2/2 3 2/3", "2 2 2 2 2 3/2 4/2");
    }

    static void promise3_aLastNodeOfOneSharesFiveWithALeftOneOfFour() {
        dueAfterRemovingFrom(7, "2 2 2 2 2 2 2 2/2 4 2/3", "2 2 2 2 2 2 3/2 3 2/3");
        dueAfterRemovingFrom(4, "2 2 2 2 2 2/4 2/2", "2 2 2 2 3/3 2/2");
    }

    // ---- which higher node is the partner

    static void promise3_theRightNodeGoesBeforeTheLeftOne() {
        dueAfterRemovingFrom(3, "2 2 2 2 2 2 2/3 2 2/3", "2 2 2 3 2 2/3 3/2");
    }

    static void promise3_aRightNodeToJoinGoesBeforeALeftOneToShareWith() {
        dueAfterRemovingFrom(4, "2 2 2 2 2 2 2 2/4 2 2/3", "2 2 2 2 3 2 2/4 3/2");
    }

    static void promise3_aRightNodeToShareWithGoesBeforeALeftOneToJoin() {
        dueAfterRemovingFrom(2, "2 2 2 2 2 2 2 2/2 2 4/3", "2 2 3 2 2 2 2/2 3 2/3");
    }

    static void promise3_theNextNodeGoesBeforeOneFartherAway() {
        dueAfterRemovingFrom(0, "2 2 2 2 2 2 2 2 2 2/2 4 2 2/4", "3 2 2 2 2 2 2 2 2/3 2 2 2/4");
    }

    // ---- the root

    static void promise3_aRootKeepsTwoEntries() {
        dueAfterRemovingFrom(0, "2 2 2/3", "3 2/2");
        dueAfterRemovingFrom(0, "2 2 2 2 2 2/2 2 2/3", "3 2 2 2 2/3 2/2");
    }

    static void promise3_theOnlyEntryOfARootAboveLeavesBecomesTheRoot() {
        dueAfterRemovingFrom(0, "2 2/2", "3");
        dueAfterRemovingFrom(1, "2 2/2", "3");
        dueAfterRemovingFrom(0, "2 3/2", "4");
        dueAfterRemovingFrom(1, "3 2/2", "4");
    }

    static void promise3_theOnlyEntryOfARootAboveNodesBecomesTheRoot() {
        dueAfterRemovingFrom(0, "2 2 2 2/2 2/2", "3 2 2/3");
        dueAfterRemovingFrom(3, "2 2 2 2/2 2/2", "2 2 3/3");
        dueAfterRemovingFrom(0, "2 2 2 2 2/2 3/2", "3 2 2 2/4");
    }

    static void promise3_aRootThatIsALeafStaysWithOneEntry() {
        Planted tree = Planted.of("2 1/2");
        tree.removeAt(0);
        dueTree("2", tree);
        tree.removeAt(0);
        dueTree("1", tree);
        due("levels()", 1, tree.made()::levels);
    }

    // ---- four levels

    static void promise3_fourLevelsStayWhenANodeOfTwoLosesNone() {
        Planted tree = fourLevels();
        for (int i = 0; i < 4; i++) {
            tree.removeAt(tree.size() - 1);
        }
        dueTree("3 3 3 2 2 2 2 2 2 2 2 2 2 2/3 3 3 3 2/3 2/2", tree);
    }

    static void promise3_theLastOfTwoNodesBelowTheRootOfFourLevelsJoinsTheOther() {
        Planted tree = fourLevels();
        for (int i = 0; i < 5; i++) {
            tree.removeAt(tree.size() - 1);
        }
        dueTree("3 3 3 2 2 2 2 2 2 2 2 2 3/3 3 3 4/4", tree);
    }

    static void promise3_theFirstOfTwoNodesBelowTheRootOfFourLevelsJoinsTheOther() {
        Planted tree = fourLevels();
        for (int i = 0; i < 11; i++) {
            tree.removeAt(0);
        }
        dueTree("2 2 2 2 2 2 2 2 2 2 2 2/2 3 4 3/2 2/2", tree);
        tree.removeAt(0);
        dueTree("3 2 2 2 2 2 2 2 2 2 2/4 4 3/3", tree);
    }

    static void promise3_aNodeBelowTheRootOfFourLevelsSharesFive() {
        Planted tree = fourLevels();
        int[] divided = {14, 15, 16, 17, 18};
        for (int leaf : divided) {
            tree.bringTo(leaf + 1, 4);
            tree.bringTo(leaf, 4);
            tree.addTo(leaf);
        }
        for (int leaf = 0; leaf < 21; leaf++) {
            tree.bringTo(leaf, 2);
        }
        dueTree("2 2 2 2 2 2 2 2 2 2 2 2 2 2 2 2 2 2 2 2 2/3 3 3 3 3 3 3/3 4/2", tree);
        for (int i = 0; i < 9; i++) {
            tree.removeAt(0);
        }
        dueTree("3 2 2 2 2 2 2 2 2 2 2 2 2 2 2 2/4 3 3 3 3/3 2/2", tree);
    }

    static void promise3_fromFourLevelsToNoneAndUpAgain() {
        Planted tree = fourLevels();
        StringBuilder levels = new StringBuilder();
        for (int boxes = tree.size(); boxes > 0; boxes--) {
            due("remove()", boxes - 1, () -> tree.removeAt(0));
            dueTree(tree.model().shape(), tree);
            levels.append(tree.made().levels());
        }
        // Three levels from 23 boxes down, two from 9 down, and one from 3 down.
        due("levels() behind each removal", "4".repeat(11) + "3".repeat(14) + "2".repeat(6) + "1".repeat(3) + "0",
                () -> levels);
        String[] shapes = {"1", "2", "3", "4", "3 2/2", "3 3/2"};
        for (int i = 0; i < shapes.length; i++) {
            tree.addKey(100 * i);
            dueTree(shapes[i], tree);
        }
    }
}
