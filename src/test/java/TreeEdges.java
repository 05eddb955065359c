/** Boundary cases of promises 9 to 15: how the tree stands. */
public final class TreeEdges extends EdgeTest {
    public static void main(String[] args) {
        runTestsOf(TreeEdges.class);
    }

    /** Levels and numbers of nodes: 1 node on level 2, 2 on level 1, 5 leaves, the last of one box. */
    private static HilbertHutch threeLevels() {
        return Planted.of("4 2 3 4 1/4 1/2").made();
    }

    private static Planted fourLevels() {
        Planted tree = Planted.of("4 4 2 2 2 2 2 2 2 2 2 2 2 2 2/4 4 4 3/4");
        tree.addTo(0);
        return tree;
    }

    /** 60 boxes are there and 100 have been added: 40 to 99, of the keys 40, 41 and so on. */
    private static Planted usedUp() {
        Planted tree = Planted.of("");
        for (int key = 0; key < 60; key++) {
            tree.addKey(key);
        }
        for (int key = 60; key < 100; key++) {
            tree.removeAt(0);
            tree.addKey(key);
        }
        return tree;
    }

    private static HilbertHutch withoutBoxes() {
        HilbertHutch hutch = new HilbertHutch();
        for (int box = 0; box < 5; box++) {
            hutch.add(box, 0, 9, 9);
        }
        for (int box = 0; box < 5; box++) {
            hutch.remove(box);
        }
        return hutch;
    }

    private static void dueCover(HilbertHutch hutch, int level, int node, int... sides) {
        for (int i = 0; i < 4; i++) {
            int side = i;
            due("cover(" + level + ", " + node + ", " + side + ")", sides[i], () -> hutch.cover(level, node, side));
        }
    }

    private static void dueNoNode(HilbertHutch hutch, int level, int node) {
        due("entries(" + level + ", " + node + ")", INDEX, () -> hutch.entries(level, node));
    }

    private static void dueNoCover(HilbertHutch hutch, int level, int node) {
        due("cover(" + level + ", " + node + ", 0)", INDEX, () -> hutch.cover(level, node, 0));
        due("cover(" + level + ", " + node + ", 3)", INDEX, () -> hutch.cover(level, node, 3));
    }

    // ---- levels

    static void promise9_noLevelWithoutBoxes() {
        due("levels() of a new tree", 0, () -> new HilbertHutch().levels());
        due("levels() when all boxes are removed", 0, () -> withoutBoxes().levels());
        HilbertHutch packed = withoutBoxes();
        packed.pack();
        due("levels() when packed", 0, packed::levels);
    }

    static void promise9_oneLevelFromOneBoxToFour() {
        due("levels() of 1", 1, () -> Planted.of("1").made().levels());
        due("levels() of 4", 1, () -> Planted.of("4").made().levels());
    }

    static void promise9_twoLevelsFromFiveBoxes() {
        due("levels() of 5", 2, () -> Planted.of("3 2/2").made().levels());
        due("levels() of four leaves", 2, () -> Planted.of("4 4 4 4/4").made().levels());
    }

    static void promise9_threeLevelsFromFiveLeaves() {
        due("levels() of five leaves", 3, () -> threeLevels().levels());
        due("levels() of 60 packed boxes", 3, () -> {
            HilbertHutch hutch = Checks.withBoxes(60);
            hutch.pack();
            return hutch.levels();
        });
    }

    static void promise9_fourLevelsFromFiveNodes() {
        due("levels() before", 3, () -> Planted.of("4 4 2 2 2 2 2 2 2 2 2 2 2 2 2/4 4 4 3/4").made().levels());
        due("levels()", 4, () -> fourLevels().made().levels());
    }

    static void promise9_theLevelsGoUpAndDownOneByOne() {
        Planted tree = Planted.of("");
        int[] levels = {1, 1, 1, 1, 2, 2, 2, 2, 2, 2, 2, 2, 2, 2, 3};
        for (int i = 0; i < levels.length; i++) {
            tree.addKey(1000 * (i + 1));
            due("levels() of " + (i + 1), levels[i], tree.made()::levels);
        }
        // From the front, "3 3 3 3 3/3 2/2" gets to "4 3 3/3" with 10 boxes, to "4" with 4 and to "" with none.
        int[] down = {3, 3, 3, 3, 2, 2, 2, 2, 2, 2, 1, 1, 1, 1, 0};
        for (int i = 0; i < down.length; i++) {
            tree.removeAt(0);
            due("levels() of " + tree.size(), down[i], tree.made()::levels);
        }
        tree.addKey(9);
        due("levels() of one more", 1, tree.made()::levels);
    }

    // ---- nodes

    static void promise10_theRootIsTheOnlyNodeOfItsLevel() {
        due("nodes(2)", 1, () -> threeLevels().nodes(2));
        due("nodes(3)", 1, () -> fourLevels().made().nodes(3));
        due("nodes(0) of one box", 1, () -> Planted.of("1").made().nodes(0));
    }

    static void promise10_theLeavesAreLevel0() {
        due("nodes(0)", 5, () -> threeLevels().nodes(0));
        due("nodes(1)", 2, () -> threeLevels().nodes(1));
    }

    static void promise10_aLevelBelow0IsRefused() {
        HilbertHutch hutch = threeLevels();
        for (int level : BELOW_0) {
            due("nodes(" + level + ")", INDEX, () -> hutch.nodes(level));
        }
    }

    static void promise10_theLevelAboveTheRootIsRefused() {
        due("nodes(1) of one level", INDEX, () -> Planted.of("4").made().nodes(1));
        due("nodes(2) of two levels", INDEX, () -> Planted.of("4 4/2").made().nodes(2));
        due("nodes(3) of three levels", INDEX, () -> threeLevels().nodes(3));
        due("nodes(4) of four levels", INDEX, () -> fourLevels().made().nodes(4));
    }

    static void promise10_aLevelFarAboveTheRootIsRefused() {
        HilbertHutch hutch = threeLevels();
        for (int level = 3; level < 70; level++) {
            int wrong = level;
            due("nodes(" + wrong + ")", INDEX, () -> hutch.nodes(wrong));
        }
        for (int level : FAR_UP) {
            due("nodes(" + level + ")", INDEX, () -> hutch.nodes(level));
        }
    }

    static void promise10_noLevelWithoutBoxes() {
        due("nodes(0) of a new tree", INDEX, () -> new HilbertHutch().nodes(0));
        due("nodes(0) when all boxes are removed", INDEX, () -> withoutBoxes().nodes(0));
        due("nodes(1) when all boxes are removed", INDEX, () -> withoutBoxes().nodes(1));
    }

    static void promise10_aLevelThatIsGoneIsRefused() {
        Planted tree = Planted.of("2 2 2 2 1/4 1/2");
        tree.removeFrom(4);
        due("nodes(1)", 1, () -> tree.made().nodes(1));
        due("nodes(2)", INDEX, () -> tree.made().nodes(2));
        tree.pack();
        due("nodes(0) when packed", 2, () -> tree.made().nodes(0));
        due("nodes(2) when packed", INDEX, () -> tree.made().nodes(2));
    }

    // ---- entries

    static void promise11_theFewestEntriesAreOne() {
        due("entries(0, 0) of one box", 1, () -> Planted.of("1").made().entries(0, 0));
        due("entries(0, 4)", 1, () -> threeLevels().entries(0, 4));
        due("entries(1, 1)", 1, () -> threeLevels().entries(1, 1));
    }

    static void promise11_theMostEntriesAreFour() {
        due("entries(0, 0)", 4, () -> threeLevels().entries(0, 0));
        due("entries(1, 0)", 4, () -> threeLevels().entries(1, 0));
        due("entries(2, 0)", 4, () -> Planted.of("2 2 2 2 2 2 2 2/2 2 2 2/4").made().entries(2, 0));
    }

    static void promise11_theFirstAndTheLastNodeOfEachLevel() {
        HilbertHutch hutch = fourLevels().made();
        due("entries(0, 0)", 3, () -> hutch.entries(0, 0));
        due("entries(0, 15)", 2, () -> hutch.entries(0, 15));
        due("entries(1, 0)", 3, () -> hutch.entries(1, 0));
        due("entries(1, 3)", 4, () -> hutch.entries(1, 3));
        due("entries(1, 4)", 3, () -> hutch.entries(1, 4));
        due("entries(2, 0)", 3, () -> hutch.entries(2, 0));
        due("entries(2, 1)", 2, () -> hutch.entries(2, 1));
        due("entries(3, 0)", 2, () -> hutch.entries(3, 0));
    }

    static void promise11_aNodeBelow0IsRefused() {
        HilbertHutch hutch = threeLevels();
        for (int node : BELOW_0) {
            for (int level = 0; level < 3; level++) {
                dueNoNode(hutch, level, node);
            }
        }
    }

    static void promise11_theNodeBehindTheLastOneIsRefused() {
        HilbertHutch hutch = threeLevels();
        dueNoNode(hutch, 0, 5);
        dueNoNode(hutch, 1, 2);
        dueNoNode(hutch, 2, 1);
        dueNoNode(Planted.of("1").made(), 0, 1);
        HilbertHutch four = fourLevels().made();
        dueNoNode(four, 0, 16);
        dueNoNode(four, 1, 5);
        dueNoNode(four, 2, 2);
        dueNoNode(four, 3, 1);
    }

    static void promise11_aNodeFarBehindTheLastOneIsRefused() {
        HilbertHutch hutch = threeLevels();
        for (int node : FAR_UP) {
            for (int level = 0; level < 3; level++) {
                dueNoNode(hutch, level, node);
            }
        }
        for (int node = 5; node < 130; node++) {
            dueNoNode(hutch, 0, node);
            dueNoNode(hutch, 1, node);
        }
    }

    static void promise11_aLevelBelow0IsRefused() {
        HilbertHutch hutch = threeLevels();
        for (int level : BELOW_0) {
            dueNoNode(hutch, level, 0);
            dueNoNode(hutch, level, 4);
            dueNoNode(hutch, level, 60);
        }
    }

    static void promise11_theLevelAboveTheRootIsRefused() {
        dueNoNode(Planted.of("4").made(), 1, 0);
        dueNoNode(Planted.of("4 4/2").made(), 2, 0);
        dueNoNode(threeLevels(), 3, 0);
        dueNoNode(fourLevels().made(), 4, 0);
        HilbertHutch hutch = threeLevels();
        for (int level : FAR_UP) {
            dueNoNode(hutch, level, 0);
        }
    }

    static void promise11_aWrongLevelAndNodeAreRefused() {
        HilbertHutch hutch = threeLevels();
        dueNoNode(hutch, -1, -1);
        dueNoNode(hutch, 3, -1);
        dueNoNode(hutch, -1, 5);
        dueNoNode(hutch, 3, 5);
        dueNoNode(hutch, Integer.MIN_VALUE, Integer.MAX_VALUE);
        dueNoNode(hutch, Integer.MAX_VALUE, Integer.MIN_VALUE);
    }

    static void promise11_noNodeWithoutBoxes() {
        dueNoNode(new HilbertHutch(), 0, 0);
        dueNoNode(withoutBoxes(), 0, 0);
        dueNoNode(withoutBoxes(), 1, 0);
    }

    static void promise11_aNodeThatIsGoneIsRefused() {
        Planted tree = Planted.of("2 2 2/3");
        tree.removeFrom(2);
        due("entries(0, 1)", 3, () -> tree.made().entries(0, 1));
        dueNoNode(tree.made(), 0, 2);
        tree.pack();
        dueTree("4 1/2", tree);
        dueNoNode(tree.made(), 0, 2);
    }

    // ---- cover

    static void promise12_theCoverOfOneBoxIsTheBox() {
        HilbertHutch hutch = new HilbertHutch();
        hutch.add(5, 60, 70, 80);
        dueCover(hutch, 0, 0, 5, 60, 70, 80);
    }

    static void promise12_theCoverOfOnePoint() {
        HilbertHutch first = new HilbertHutch();
        first.add(0, 0, 0, 0);
        dueCover(first, 0, 0, 0, 0, 0, 0);
        HilbertHutch last = new HilbertHutch();
        last.add(255, 255, 255, 255);
        dueCover(last, 0, 0, 255, 255, 255, 255);
    }

    static void promise12_theCoverOfAllPoints() {
        HilbertHutch hutch = new HilbertHutch();
        hutch.add(0, 255, 0, 255);
        hutch.add(255, 0, 255, 0);
        dueCover(hutch, 0, 0, 0, 0, 255, 255);
    }

    static void promise12_eachSideIsThatOfTheOutermostBox() {
        HilbertHutch hutch = new HilbertHutch();
        hutch.add(50, 50, 60, 60);
        hutch.add(40, 51, 59, 59);
        dueCover(hutch, 0, 0, 40, 50, 60, 60);
        hutch.add(51, 41, 59, 59);
        dueCover(hutch, 0, 0, 40, 41, 60, 60);
        hutch.add(51, 51, 72, 73);
        dueCover(hutch, 0, 0, 40, 41, 72, 73);
    }

    static void promise12_theCoverShrinksWithEachOutermostBox() {
        HilbertHutch hutch = new HilbertHutch();
        hutch.add(50, 50, 60, 60);
        hutch.add(40, 51, 59, 59);
        hutch.add(51, 41, 59, 59);
        hutch.add(51, 51, 72, 73);
        hutch.remove(3);
        dueCover(hutch, 0, 0, 40, 41, 60, 60);
        hutch.remove(1);
        dueCover(hutch, 0, 0, 50, 41, 60, 60);
        hutch.remove(2);
        dueCover(hutch, 0, 0, 50, 50, 60, 60);
    }

    static void promise12_aCoverIsNoLargerThanItsBoxesOnEachLevel() {
        // The points of the keys 0 to 16 in four full leaves, one node above each four, and a leaf of one.
        HilbertHutch hutch = new HilbertHutch();
        for (int key = 0; key < 17; key++) {
            Checks.addKeys(hutch, key);
        }
        hutch.pack();
        dueCover(hutch, 0, 0, 0, 0, 1, 1);
        dueCover(hutch, 0, 1, 0, 2, 1, 3);
        dueCover(hutch, 0, 2, 2, 2, 3, 3);
        dueCover(hutch, 0, 3, 2, 0, 3, 1);
        dueCover(hutch, 0, 4, 4, 0, 4, 0);
        dueCover(hutch, 1, 0, 0, 0, 3, 3);
        dueCover(hutch, 1, 1, 4, 0, 4, 0);
        dueCover(hutch, 2, 0, 0, 0, 4, 3);
    }

    static void promise12_theCoversFollowWhenLeavesShare() {
        // Behind the fifth and the sixth point, leaves of 3 and 2 and of 3 and 3; when packed, of 4 and 2.
        HilbertHutch hutch = new HilbertHutch();
        Checks.addKeys(hutch, 0, 1, 2, 3, 4);
        dueCover(hutch, 0, 0, 0, 0, 1, 1);
        dueCover(hutch, 0, 1, 0, 1, 0, 2);
        Checks.addKeys(hutch, 5);
        dueCover(hutch, 0, 1, 0, 1, 0, 3);
        hutch.pack();
        dueCover(hutch, 0, 0, 0, 0, 1, 1);
        dueCover(hutch, 0, 1, 0, 2, 0, 3);
        dueCover(hutch, 1, 0, 0, 0, 1, 3);
    }

    static void promise12_sideBelow0IsRefused() {
        HilbertHutch hutch = threeLevels();
        for (int side : BELOW_0) {
            due("cover(0, 0, " + side + ")", ARGUMENT, () -> hutch.cover(0, 0, side));
            due("cover(2, 0, " + side + ")", ARGUMENT, () -> hutch.cover(2, 0, side));
        }
    }

    static void promise12_sideAbove3IsRefused() {
        HilbertHutch hutch = threeLevels();
        for (int side = 4; side <= 64; side++) {
            int wrong = side;
            due("cover(0, 0, " + wrong + ")", ARGUMENT, () -> hutch.cover(0, 0, wrong));
        }
        for (int side : FAR_UP) {
            due("cover(2, 0, " + side + ")", ARGUMENT, () -> hutch.cover(2, 0, side));
        }
    }

    static void promise12_aNodeBelow0IsRefused() {
        HilbertHutch hutch = threeLevels();
        for (int node : BELOW_0) {
            for (int level = 0; level < 3; level++) {
                dueNoCover(hutch, level, node);
            }
        }
    }

    static void promise12_theNodeBehindTheLastOneIsRefused() {
        HilbertHutch hutch = threeLevels();
        dueNoCover(hutch, 0, 5);
        dueNoCover(hutch, 1, 2);
        dueNoCover(hutch, 2, 1);
        dueNoCover(Planted.of("1").made(), 0, 1);
        for (int node : FAR_UP) {
            for (int level = 0; level < 3; level++) {
                dueNoCover(hutch, level, node);
            }
        }
    }

    static void promise12_aLevelBelow0IsRefused() {
        HilbertHutch hutch = threeLevels();
        for (int level : BELOW_0) {
            dueNoCover(hutch, level, 0);
            dueNoCover(hutch, level, 60);
        }
    }

    static void promise12_theLevelAboveTheRootIsRefused() {
        dueNoCover(Planted.of("4").made(), 1, 0);
        dueNoCover(Planted.of("4 4/2").made(), 2, 0);
        dueNoCover(fourLevels().made(), 4, 0);
        HilbertHutch hutch = threeLevels();
        dueNoCover(hutch, 3, 0);
        for (int level : FAR_UP) {
            dueNoCover(hutch, level, 0);
        }
    }

    static void promise12_noCoverWithoutBoxes() {
        dueNoCover(new HilbertHutch(), 0, 0);
        dueNoCover(withoutBoxes(), 0, 0);
        dueNoCover(withoutBoxes(), 1, 0);
    }

    static void promise12_aWrongSideGoesBeforeAWrongNodeOrLevel() {
        HilbertHutch hutch = threeLevels();
        due("cover(0, 5, 4)", ARGUMENT, () -> hutch.cover(0, 5, 4));
        due("cover(0, -1, -1)", ARGUMENT, () -> hutch.cover(0, -1, -1));
        due("cover(3, 0, 4)", ARGUMENT, () -> hutch.cover(3, 0, 4));
        due("cover(-1, 0, -1)", ARGUMENT, () -> hutch.cover(-1, 0, -1));
        due("cover(-1, -1, 4)", ARGUMENT, () -> hutch.cover(-1, -1, 4));
        due("cover(0, 0, 4) without boxes", ARGUMENT, () -> new HilbertHutch().cover(0, 0, 4));
    }

    // ---- leafOf

    static void promise13_theFirstBoxIsInTheFirstLeaf() {
        Planted tree = Planted.of("2 3 4/3");
        due("leafOf the first box", 0, () -> tree.made().leafOf(tree.numbers().get(0)));
        due("leafOf the last box of the first leaf", 0, () -> tree.made().leafOf(tree.numbers().get(1)));
        due("leafOf the first box of the second leaf", 1, () -> tree.made().leafOf(tree.numbers().get(2)));
    }

    static void promise13_theLastBoxIsInTheLastLeaf() {
        Planted tree = Planted.of("2 3 4/3");
        due("leafOf the last box", 2, () -> tree.made().leafOf(tree.numbers().get(8)));
        due("leafOf the first box of the last leaf", 2, () -> tree.made().leafOf(tree.numbers().get(5)));
        due("leafOf the last box of the second leaf", 1, () -> tree.made().leafOf(tree.numbers().get(4)));
    }

    static void promise13_theOnlyBox() {
        HilbertHutch hutch = new HilbertHutch();
        hutch.add(9, 9, 9, 9);
        due("leafOf(0)", 0, () -> hutch.leafOf(0));
    }

    static void promise13_aLeafOfOneBox() {
        HilbertHutch hutch = threeLevels();
        int last = hutch.boxAt(hutch.boxes() - 1);
        due("leafOf the only box of the last leaf", 4, () -> hutch.leafOf(last));
    }

    static void promise13_theLeavesAreCountedBelowAllHigherNodes() {
        Planted tree = fourLevels();
        due("leafOf the last box", 15, () -> tree.made().leafOf(tree.numbers().get(tree.size() - 1)));
    }

    static void promise13_theNumberSaysNothingOfTheLeaf() {
        HilbertHutch hutch = new HilbertHutch();
        Checks.addKeys(hutch, 900, 800, 700, 600, 500);
        due("leafOf(4)", 0, () -> hutch.leafOf(4));
        due("leafOf(0)", 1, () -> hutch.leafOf(0));
    }

    static void promise13_aNumberBelow0IsRefused() {
        HilbertHutch hutch = usedUp().made();
        for (int box : BELOW_0) {
            due("leafOf(" + box + ")", INDEX, () -> hutch.leafOf(box));
        }
    }

    static void promise13_aNumberNotYetUsedIsRefused() {
        HilbertHutch hutch = Checks.withBoxes(5);
        due("leafOf(4)", 1, () -> hutch.leafOf(4));
        due("leafOf(5)", INDEX, () -> hutch.leafOf(5));
        due("leafOf(99)", INDEX, () -> hutch.leafOf(99));
        for (int box : FAR_UP) {
            due("leafOf(" + box + ")", INDEX, () -> hutch.leafOf(box));
        }
    }

    static void promise13_theNumbers99And100() {
        Planted tree = usedUp();
        due("leafOf(99)", tree.made().nodes(0) - 1, () -> tree.made().leafOf(99));
        due("leafOf(40)", 0, () -> tree.made().leafOf(40));
        due("leafOf(39)", INDEX, () -> tree.made().leafOf(39));
        due("leafOf(100)", INDEX, () -> tree.made().leafOf(100));
    }

    static void promise13_aRemovedBoxIsRefused() {
        HilbertHutch hutch = Checks.withBoxes(6);
        hutch.remove(2);
        due("leafOf(2)", INDEX, () -> hutch.leafOf(2));
        due("leafOf(1)", 0, () -> hutch.leafOf(1));
        due("leafOf(3)", 1, () -> hutch.leafOf(3));
    }

    // ---- boxAt

    static void promise14_theFirstAndTheLastPlace() {
        HilbertHutch hutch = new HilbertHutch();
        Checks.addKeys(hutch, 500, 65535, 0);
        due("boxAt(0)", 2, () -> hutch.boxAt(0));
        due("boxAt(2)", 1, () -> hutch.boxAt(2));
    }

    static void promise14_equalKeysInTheOrderOfTheNumbers() {
        HilbertHutch hutch = new HilbertHutch();
        Checks.addKeys(hutch, 7, 7, 6, 8, 7, 6);
        int[] order = {2, 5, 0, 1, 4, 3};
        for (int i = 0; i < order.length; i++) {
            int place = i;
            due("boxAt(" + place + ")", order[i], () -> hutch.boxAt(place));
        }
    }

    static void promise14_aPlaceBelow0IsRefused() {
        HilbertHutch hutch = Checks.withBoxes(60);
        for (int place : BELOW_0) {
            due("boxAt(" + place + ")", INDEX, () -> hutch.boxAt(place));
        }
    }

    static void promise14_thePlaceBehindTheLastOneIsRefused() {
        HilbertHutch one = Checks.withBoxes(1);
        due("boxAt(0) of one", 0, () -> one.boxAt(0));
        due("boxAt(1) of one", INDEX, () -> one.boxAt(1));
        HilbertHutch five = Checks.withBoxes(5);
        due("boxAt(4) of five", 4, () -> five.boxAt(4));
        due("boxAt(5) of five", INDEX, () -> five.boxAt(5));
        due("boxAt(99) of five", INDEX, () -> five.boxAt(99));
    }

    static void promise14_thePlaces59And60() {
        HilbertHutch hutch = usedUp().made();
        due("boxAt(0)", 40, () -> hutch.boxAt(0));
        due("boxAt(59)", 99, () -> hutch.boxAt(59));
        due("boxAt(60)", INDEX, () -> hutch.boxAt(60));
        for (int place : FAR_UP) {
            due("boxAt(" + place + ")", INDEX, () -> hutch.boxAt(place));
        }
    }

    static void promise14_noPlaceWithoutBoxes() {
        due("boxAt(0) of a new tree", INDEX, () -> new HilbertHutch().boxAt(0));
        due("boxAt(0) when all boxes are removed", INDEX, () -> withoutBoxes().boxAt(0));
    }

    static void promise14_thePlaceOfARemovedBoxGoesToTheNextOne() {
        HilbertHutch hutch = Checks.withBoxes(3);
        hutch.remove(0);
        due("boxAt(0)", 1, () -> hutch.boxAt(0));
        due("boxAt(1)", 2, () -> hutch.boxAt(1));
        due("boxAt(2)", INDEX, () -> hutch.boxAt(2));
        hutch.remove(2);
        due("boxAt(0) of one", 1, () -> hutch.boxAt(0));
        due("boxAt(1) of one", INDEX, () -> hutch.boxAt(1));
    }

    // ---- tightness

    static void promise15_noTightnessWithoutBoxes() {
        due("tightness() of a new tree", STATE, () -> new HilbertHutch().tightness());
        due("tightness() when all boxes are removed", STATE, () -> withoutBoxes().tightness());
        HilbertHutch packed = new HilbertHutch();
        packed.pack();
        due("tightness() when packed", STATE, packed::tightness);
    }

    static void promise15_oneBoxFitsExactly() {
        HilbertHutch point = new HilbertHutch();
        point.add(255, 255, 255, 255);
        due("tightness() of a point", 1.0f, point::tightness);
        HilbertHutch all = new HilbertHutch();
        all.add(0, 0, 255, 255);
        due("tightness() of all points", 1.0f, all::tightness);
    }

    static void promise15_anAreaCountsThePointsOfBothSides() {
        // 1 + 2 * 3 points in a cover of 11 * 21.
        HilbertHutch hutch = new HilbertHutch();
        hutch.add(0, 0, 0, 0);
        hutch.add(9, 18, 10, 20);
        due("tightness()", 7f / 231f, hutch::tightness);
    }

    static void promise15_boxesThatMeetAreCountedWhole() {
        HilbertHutch hutch = new HilbertHutch();
        for (int i = 1; i <= 4; i++) {
            hutch.add(3, 3, 7, 9);
            due("tightness() of " + i + " equal boxes", (float) i, hutch::tightness);
        }
    }

    static void promise15_theLeastTightness() {
        HilbertHutch hutch = new HilbertHutch();
        hutch.add(0, 0, 0, 0);
        hutch.add(255, 255, 255, 255);
        due("tightness()", 2f / 65536f, hutch::tightness);
    }

    static void promise15_theGreatestSums() {
        HilbertHutch hutch = new HilbertHutch();
        for (int i = 0; i < 60; i++) {
            hutch.add(0, 0, 255, 255);
        }
        // Leaves of three and four: 60 boxes, each as large as the cover of a leaf.
        due("tightness()", 60f * 65536f / (hutch.nodes(0) * 65536f), hutch::tightness);
        hutch.pack();
        due("tightness() when packed", 4f, hutch::tightness);
    }

    static void promise15_theLeavesAloneAreCounted() {
        // Two leaves of points: 3 in a cover of 2 * 2, and 2 in one of 1 * 2; the root is not counted.
        HilbertHutch hutch = new HilbertHutch();
        Checks.addKeys(hutch, 0, 1, 2, 3, 4);
        due("tightness()", 5f / 6f, hutch::tightness);
        hutch.pack();
        due("tightness() when packed", 1f, hutch::tightness);
    }

    static void promise15_theQuotientIsAFloat() {
        HilbertHutch hutch = new HilbertHutch();
        hutch.add(0, 0, 0, 0);
        hutch.add(2, 0, 2, 0);
        due("tightness()", 0.6666667f, hutch::tightness);
    }

    static void promise15_aRemovedBoxIsNotCounted() {
        HilbertHutch hutch = new HilbertHutch();
        hutch.add(0, 0, 0, 0);
        hutch.add(2, 0, 2, 0);
        hutch.remove(0);
        due("tightness()", 1f, hutch::tightness);
    }
}
