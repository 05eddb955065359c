/** Boundary cases of adding (promise 2): where a box goes, and how full nodes share and are divided. */
public final class AddingEdges extends EdgeTest {
    public static void main(String[] args) {
        runTestsOf(AddingEdges.class);
    }

    /** Adds a box to a leaf of a tree of one shape, neither as its first nor as its last; another is due. */
    private static void dueAfterAddingTo(int leaf, String shape, String want) {
        Planted tree = Planted.of(shape);
        dueTree(shape, tree);
        tree.addTo(leaf);
        dueTree(want, tree);
    }

    private static void dueAfterAddingKey(int key, String shape, String want) {
        Planted tree = Planted.of(shape);
        dueTree(shape, tree);
        tree.addKey(key);
        dueTree(want, tree);
    }

    /** A tree of four levels; then each of these leaves and its next one are made into three, in this order. */
    private static Planted fourLevels(int... leaves) {
        Planted tree = Planted.of("4 4 2 2 2 2 2 2 2 2 2 2 2 2 2/4 4 4 3/4");
        tree.addTo(0);
        dueTree("3 3 3 2 2 2 2 2 2 2 2 2 2 2 2 2/3 3 3 4 3/3 2/2", tree);
        divideNext(tree, leaves);
        return tree;
    }

    private static void divideNext(Planted tree, int... leaves) {
        for (int leaf : leaves) {
            tree.bringTo(leaf + 1, 4);
            tree.bringTo(leaf, 4);
            tree.addTo(leaf);
        }
    }

    /** Leaves two boxes to each leaf, which mends nothing. */
    private static void thin(Planted tree) {
        for (int leaf = 0; leaf < tree.made().nodes(0); leaf++) {
            tree.bringTo(leaf, 2);
        }
    }

    // ---- the leaf that a box goes to; the leaves of "2 2 2/3" have the keys 1000, 2000, 5000, 6000, 9000, 10000

    static void promise2_theFirstBoxMakesALeafThatIsTheRoot() {
        dueAfterAddingKey(0, "", "1");
        dueAfterAddingKey(65535, "", "1");
    }

    static void promise2_aFurtherBoxIsPutIntoTheRoot() {
        dueAfterAddingKey(0, "1", "2");
        dueAfterAddingKey(65535, "1", "2");
    }

    static void promise2_aBoxInFrontOfAllGoesToTheFirstLeaf() {
        dueAfterAddingKey(0, "2 2 2/3", "3 2 2/3");
        dueAfterAddingKey(999, "2 2 2/3", "3 2 2/3");
    }

    static void promise2_aBoxOfTheFirstKeyGoesToTheFirstLeaf() {
        dueAfterAddingKey(1000, "2 2 2/3", "3 2 2/3");
    }

    static void promise2_aBoxBehindAllGoesToTheLastLeaf() {
        Planted tree = Planted.of("2 2 2/3");
        int last = tree.keyAt(tree.size() - 1);
        dueAfterAddingKey(last + 1, "2 2 2/3", "2 2 3/3");
        dueAfterAddingKey(65535, "2 2 2/3", "2 2 3/3");
    }

    static void promise2_aBoxOfTheLastKeyGoesToTheLastLeaf() {
        Planted tree = Planted.of("2 2 2/3");
        dueAfterAddingKey(tree.keyAt(tree.size() - 1), "2 2 2/3", "2 2 3/3");
    }

    static void promise2_aBoxJustInFrontOfALastBoxGoesToItsLeaf() {
        Planted tree = Planted.of("2 2 2/3");
        dueAfterAddingKey(tree.keyAt(1) - 1, "2 2 2/3", "3 2 2/3");
        dueAfterAddingKey(tree.keyAt(3) - 1, "2 2 2/3", "2 3 2/3");
    }

    static void promise2_aBoxJustBehindALastBoxGoesToTheNextLeaf() {
        Planted tree = Planted.of("2 2 2/3");
        dueAfterAddingKey(tree.keyAt(1) + 1, "2 2 2/3", "2 3 2/3");
        dueAfterAddingKey(tree.keyAt(3) + 1, "2 2 2/3", "2 2 3/3");
    }

    static void promise2_aBoxOfTheKeyOfALastBoxGoesToTheNextLeaf() {
        Planted tree = Planted.of("2 2 2/3");
        dueAfterAddingKey(tree.keyAt(1), "2 2 2/3", "2 3 2/3");
        dueAfterAddingKey(tree.keyAt(3), "2 2 2/3", "2 2 3/3");
    }

    static void promise2_aBoxBetweenTwoHigherNodesGoesToTheRightOne() {
        String shape = "2 2 2 2 2 2/4 2/2";
        Planted tree = Planted.of(shape);
        dueAfterAddingKey(tree.keyAt(7) + 1, shape, "2 2 2 2 3 2/4 2/2");
        dueAfterAddingKey(tree.keyAt(8) - 1, shape, "2 2 2 2 3 2/4 2/2");
    }

    static void promise2_aBoxOfTheLastKeyOfAHigherNodeGoesToTheNextOne() {
        String shape = "2 2 2 2 2 2/4 2/2";
        dueAfterAddingKey(Planted.of(shape).keyAt(7), shape, "2 2 2 2 3 2/4 2/2");
    }

    static void promise2_aBoxJustInFrontOfTheLastOneOfAHigherNodeGoesToIt() {
        String shape = "2 2 2 2 2 2/4 2/2";
        dueAfterAddingKey(Planted.of(shape).keyAt(7) - 1, shape, "2 2 2 3 2 2/4 2/2");
    }

    static void promise2_aBoxBehindAllGoesToTheLastLeafOfTheLastHigherNode() {
        dueAfterAddingKey(65535, "2 2 2 2 2 2/4 2/2", "2 2 2 2 2 3/4 2/2");
    }

    static void promise2_equalKeysComeInTheOrderOfTheNumbers() {
        Planted tree = Planted.of("");
        for (int i = 0; i < 9; i++) {
            tree.addKey(500);
        }
        dueTree("3 3 3/3", tree);
        due("the order", "[0, 1, 2, 3, 4, 5, 6, 7, 8]", () -> Checks.order(tree.made()));
    }

    static void promise2_anEqualKeyBehindARemovalComesLast() {
        Planted tree = Planted.of("");
        tree.addKey(500);
        tree.addKey(500);
        tree.addKey(501);
        tree.removeAt(0);
        tree.addKey(500);
        dueTree("3", tree);
        due("the order", "[1, 3, 2]", () -> Checks.order(tree.made()));
    }

    static void promise2_theGreatestKeyIsNotTheEnd() {
        Planted tree = Planted.of("");
        for (int i = 0; i < 6; i++) {
            tree.addKey(65535);
            tree.addKey(0);
        }
        dueTree("3 3 3 3/4", tree);
    }

    // ---- a leaf that is the root

    static void promise2_aLeafKeepsFourBoxes() {
        dueAfterAddingTo(0, "3", "4");
    }

    static void promise2_aFifthBoxInAnyPlaceDividesTheRoot() {
        for (int place = 0; place <= 4; place++) {
            Planted tree = Planted.of("4");
            tree.addAt(place);
            dueTree("3 2/2", tree);
        }
    }

    static void promise2_aNewRootHasTwoEntries() {
        Planted tree = Planted.of("4");
        tree.addAt(4);
        due("entries(1, 0)", 2, () -> tree.made().entries(1, 0));
        due("levels()", 2, tree.made()::levels);
    }

    // ---- a leaf with a partner to the right

    static void promise2_aFullLeafSharesWithARightOneOfOne() {
        dueAfterAddingTo(0, "4 1/2", "3 3/2");
    }

    static void promise2_aFullLeafSharesSevenWithARightOneOfTwo() {
        dueAfterAddingTo(0, "4 2/2", "4 3/2");
    }

    static void promise2_aFullLeafSharesWithARightOneOfThree() {
        dueAfterAddingTo(0, "4 3/2", "4 4/2");
    }

    static void promise2_aFullLeafAndAFullRightOneMakeThree() {
        dueAfterAddingTo(0, "4 4/2", "3 3 3/3");
    }

    static void promise2_aFullLeafSharesItsLastBoxToTheRight() {
        Planted tree = Planted.of("4 2/2");
        tree.addAt(3);
        dueTree("4 3/2", tree);
        Planted front = Planted.of("4 2/2");
        front.addAt(0);
        dueTree("4 3/2", front);
    }

    // ---- a leaf with a partner to the left

    static void promise2_aFullLastLeafSharesSevenWithALeftOneOfTwo() {
        dueAfterAddingTo(1, "2 4/2", "4 3/2");
    }

    static void promise2_aFullLastLeafSharesWithALeftOneOfThree() {
        dueAfterAddingTo(1, "3 4/2", "4 4/2");
    }

    static void promise2_aFullLastLeafAndAFullLeftOneMakeThree() {
        dueAfterAddingTo(1, "4 4/2", "3 3 3/3");
    }

    static void promise2_aFullLastLeafSharesABoxBehindAll() {
        dueAfterAddingKey(65535, "2 4/2", "4 3/2");
        dueAfterAddingKey(65535, "3 4/2", "4 4/2");
        dueAfterAddingKey(65535, "4 4/2", "3 3 3/3");
    }

    static void promise2_theNextBoxGoesByTheBoxesThatALeafHasBehindSharing() {
        Planted right = Planted.of("4 2/2");
        right.addTo(0);
        dueTree("4 3/2", right);
        right.addKey(right.keyAt(3) + 1);
        dueTree("4 4/2", right);
        Planted left = Planted.of("2 4/2");
        left.addTo(1);
        dueTree("4 3/2", left);
        left.addKey(left.keyAt(3) + 1);
        dueTree("4 4/2", left);
        left.removeAt(0);
        left.addKey(left.keyAt(2) - 1);
        dueTree("4 4/2", left);
    }

    static void promise2_theNextBoxGoesByTheBoxesThatALeafHasBehindADivision() {
        Planted tree = Planted.of("4 4/2");
        tree.addTo(0);
        tree.addKey(tree.keyAt(2) - 1);
        dueTree("4 3 3/3", tree);
        tree.addKey(tree.keyAt(3) + 1);
        dueTree("4 4 3/3", tree);
        tree.addKey(tree.keyAt(7) + 1);
        dueTree("4 4 4/3", tree);
    }

    // ---- which one is the partner

    static void promise2_theRightLeafGoesBeforeTheLeftOne() {
        dueAfterAddingTo(1, "2 4 2/3", "2 4 3/3");
        dueAfterAddingTo(1, "2 4 3/3", "2 4 4/3");
        dueAfterAddingTo(1, "2 4 1/3", "2 3 3/3");
    }

    static void promise2_aFullRightLeafGoesBeforeALeftOneWithRoom() {
        dueAfterAddingTo(1, "2 4 4/3", "2 3 3 3/4");
    }

    static void promise2_theNextLeafGoesBeforeOneFartherRight() {
        dueAfterAddingTo(0, "4 4 2/3", "3 3 3 2/4");
    }

    static void promise2_theNextLeafGoesBeforeOneFartherLeft() {
        dueAfterAddingTo(2, "2 4 4/3", "2 3 3 3/4");
    }

    static void promise2_aLeafNotFullSharesNothing() {
        dueAfterAddingTo(0, "3 1/2", "4 1/2");
        dueAfterAddingTo(1, "4 3 4/3", "4 4 4/3");
    }

    static void promise2_theLastLeafOfANodeSharesToTheLeft() {
        dueAfterAddingTo(3, "2 2 2 4 2 2/4 2/2", "2 2 4 3 2 2/4 2/2");
        dueAfterAddingTo(3, "2 2 3 4 1/4 1/2", "2 2 4 4 1/4 1/2");
    }

    static void promise2_theLastLeafOfANodeMakesThreeToTheLeft() {
        dueAfterAddingTo(3, "2 2 4 4 2 2/4 2/2", "2 2 3 3 3 2 2/4 3/2");
        dueAfterAddingTo(1, "4 4 2 2/2 2/2", "3 3 3 2 2/3 2/2");
    }

    static void promise2_theFirstLeafOfANodeSharesToTheRight() {
        dueAfterAddingTo(4, "2 2 2 2 4 2/4 2/2", "2 2 2 2 4 3/4 2/2");
        dueAfterAddingTo(4, "2 2 2 2 4 4/4 2/2", "2 2 2 2 3 3 3/4 3/2");
    }

    static void promise2_anOnlyLeafKeepsFourBoxes() {
        dueAfterAddingTo(4, "2 2 2 2 3/4 1/2", "2 2 2 2 4/4 1/2");
    }

    static void promise2_anOnlyLeafIsDividedBesideALeafOfAnotherNode() {
        dueAfterAddingTo(4, "2 2 2 2 4/4 1/2", "2 2 2 2 3 2/4 2/2");
        dueAfterAddingTo(2, "2 2 4/2 1/2", "2 2 3 2/2 2/2");
    }

    // ---- the root above the leaves

    static void promise2_aRootKeepsFourLeaves() {
        dueAfterAddingTo(0, "4 4 2/3", "3 3 3 2/4");
    }

    static void promise2_aFifthLeafDividesTheRoot() {
        dueAfterAddingTo(0, "4 4 2 2/4", "3 3 3 2 2/3 2/2");
        dueAfterAddingTo(1, "2 4 4 2/4", "2 3 3 3 2/3 2/2");
        dueAfterAddingTo(3, "2 2 4 4/4", "2 2 3 3 3/3 2/2");
    }

    static void promise2_aNodeThatIsNotTheRootKeepsFourLeaves() {
        dueAfterAddingTo(0, "4 4 2 2 2/3 2/2", "3 3 3 2 2 2/4 2/2");
        dueAfterAddingTo(3, "2 2 2 4 4 2/3 3/2", "2 2 2 3 3 3 2/3 4/2");
    }

    // ---- higher nodes with a partner to the right

    static void promise2_aFullNodeSharesWithARightOneOfOne() {
        dueAfterAddingTo(0, "4 4 2 2 2/4 1/2", "3 3 3 2 2 2/3 3/2");
    }

    static void promise2_aFullNodeSharesSevenWithARightOneOfTwo() {
        dueAfterAddingTo(0, "4 4 2 2 2 2/4 2/2", "3 3 3 2 2 2 2/4 3/2");
    }

    static void promise2_aFullNodeSharesWithARightOneOfThree() {
        dueAfterAddingTo(0, "4 4 2 2 2 2 2/4 3/2", "3 3 3 2 2 2 2 2/4 4/2");
    }

    static void promise2_aFullNodeAndAFullRightOneMakeThree() {
        dueAfterAddingTo(0, "4 4 2 2 2 2 2 2/4 4/2", "3 3 3 2 2 2 2 2 2/3 3 3/3");
    }

    static void promise2_theNextBoxGoesByTheBoxesThatANodeHasBehindSharing() {
        // The second node gives its last two leaves to the third one; then it ends with the place 11.
        Planted tree = Planted.of("2 2 2 4 4 2 2/2 4 1/3");
        tree.addTo(3);
        dueTree("2 2 2 3 3 3 2 2/2 3 3/3", tree);
        tree.addKey(tree.keyAt(11) + 1);
        dueTree("2 2 2 3 3 4 2 2/2 3 3/3", tree);
        tree.addKey(tree.keyAt(11) - 1);
        dueTree("2 2 2 3 4 4 2 2/2 3 3/3", tree);
    }

    // ---- higher nodes with a partner to the left

    static void promise2_aFullLastNodeSharesSevenWithALeftOneOfTwo() {
        dueAfterAddingTo(2, "2 2 4 4 2 2/2 4/2", "2 2 3 3 3 2 2/4 3/2");
    }

    static void promise2_aFullLastNodeSharesWithALeftOneOfThree() {
        dueAfterAddingTo(3, "2 2 2 4 4 2 2/3 4/2", "2 2 2 3 3 3 2 2/4 4/2");
    }

    static void promise2_aFullLastNodeAndAFullLeftOneMakeThree() {
        dueAfterAddingTo(4, "2 2 2 2 4 4 2 2/4 4/2", "2 2 2 2 3 3 3 2 2/3 3 3/3");
    }

    // ---- which higher node is the partner

    static void promise2_theRightNodeGoesBeforeTheLeftOne() {
        dueAfterAddingTo(2, "2 2 4 4 2 2 2/2 4 1/3", "2 2 3 3 3 2 2 2/2 3 3/3");
        dueAfterAddingTo(2, "2 2 4 4 2 2 2 2/2 4 2/3", "2 2 3 3 3 2 2 2 2/2 4 3/3");
        dueAfterAddingTo(2, "2 2 4 4 2 2 2 2 2/2 4 3/3", "2 2 3 3 3 2 2 2 2 2/2 4 4/3");
    }

    static void promise2_aFullRightNodeGoesBeforeALeftOneWithRoom() {
        dueAfterAddingTo(2, "2 2 4 4 2 2 2 2 2 2/2 4 4/3", "2 2 3 3 3 2 2 2 2 2 2/2 3 3 3/4");
    }

    static void promise2_theNextNodeGoesBeforeOneFartherRight() {
        dueAfterAddingTo(0, "4 4 2 2 2 2 2 2 2 2/4 4 2/3", "3 3 3 2 2 2 2 2 2 2 2/3 3 3 2/4");
    }

    static void promise2_theNextNodeGoesBeforeOneFartherLeft() {
        dueAfterAddingTo(6, "2 2 2 2 2 2 4 4 2 2/2 4 4/3", "2 2 2 2 2 2 3 3 3 2 2/2 3 3 3/4");
    }

    // ---- four levels

    static void promise2_aRootKeepsFourNodes() {
        dueAfterAddingTo(0, "4 4 2 2 2 2 2 2 2 2 2/4 4 3/3", "3 3 3 2 2 2 2 2 2 2 2 2/3 3 3 3/4");
    }

    static void promise2_aFifthNodeDividesTheRoot() {
        dueAfterAddingTo(0, "4 4 2 2 2 2 2 2 2 2 2 2 2 2 2/4 4 4 3/4",
                "3 3 3 2 2 2 2 2 2 2 2 2 2 2 2 2/3 3 3 4 3/3 2/2");
        dueAfterAddingTo(4, "2 2 2 2 4 4 2 2 2 2 2 2 2 2 2/4 4 4 3/4",
                "2 2 2 2 3 3 3 2 2 2 2 2 2 2 2 2/4 3 3 3 3/3 2/2");
    }

    static void promise2_theLastNodeBelowAnotherOneSharesToTheLeft() {
        Planted tree = fourLevels(7, 8);
        // The next node to the right has four entries, but it is an entry of another node.
        dueTree("3 3 3 2 2 2 2 3 3 3 3 2 2 2 2 2 2 2/3 4 4 4 3/3 2/2", tree);
    }

    static void promise2_aNodeBelowTheRootOfFourLevelsKeepsFour() {
        Planted tree = fourLevels(7, 8, 9);
        dueTree("3 3 3 2 2 2 2 3 3 3 3 3 2 2 2 2 2 2 2/3 3 3 3 4 3/4 2/2", tree);
    }

    static void promise2_aFullNodeBelowTheRootOfFourLevelsShares() {
        Planted tree = fourLevels(7, 8, 9, 10, 11, 12);
        dueTree("3 3 3 2 2 2 2 3 3 3 3 3 3 3 3 2 2 2 2 2 2 2/3 3 3 3 3 4 3/4 3/2", tree);
    }

    static void promise2_twoFullNodesBelowTheRootOfFourLevelsMakeThree() {
        Planted tree = fourLevels(7, 8, 9, 10, 11, 12);
        thin(tree);
        divideNext(tree, 12, 13);
        thin(tree);
        dueShape("2 2 2 2 2 2 2 2 2 2 2 2 2 2 2 2 2 2 2 2 2 2 2 2/3 3 3 3 3 3 3 3/4 4/2", tree.made());
        divideNext(tree, 10, 11);
        thin(tree);
        divideNext(tree, 12);
        dueTree("2 2 2 2 2 2 2 2 2 2 2 2 3 3 3 2 2 2 2 2 2 2 2 2 2 2 2/3 3 3 3 3 3 3 3 3/3 3 3/3", tree);
    }
}
