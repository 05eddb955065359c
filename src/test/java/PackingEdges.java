/** Boundary cases of packing (promise 4). */
public final class PackingEdges extends EdgeTest {
    public static void main(String[] args) {
        runTestsOf(PackingEdges.class);
    }

    private static Planted unpacked(int boxes) {
        Planted tree = Planted.of("");
        for (int i = 1; i <= boxes; i++) {
            tree.addKey(1000 * i);
        }
        return tree;
    }

    private static void duePacked(int boxes, int leaves, String shape) {
        Planted tree = unpacked(boxes);
        due("pack() of " + boxes, leaves, tree::pack);
        dueTree(shape, tree);
    }

    private static void duePackedFrom(String from, int leaves, String shape) {
        Planted tree = Planted.of(from);
        dueTree(from, tree);
        due("pack()", leaves, tree::pack);
        dueTree(shape, tree);
    }

    // ---- how many boxes there are

    static void promise4_noBox() {
        duePacked(0, 0, "");
    }

    static void promise4_noBoxBehindTheLastOne() {
        Planted tree = unpacked(1);
        tree.removeAt(0);
        due("pack()", 0, tree::pack);
        dueTree("", tree);
        tree.addKey(5);
        dueTree("1", tree);
    }

    static void promise4_oneBox() {
        duePacked(1, 1, "1");
    }

    static void promise4_aFullLeafIsTheRoot() {
        duePacked(4, 1, "4");
    }

    static void promise4_theFifthBoxIsLeftToALeafOfItsOwn() {
        duePacked(5, 2, "4 1/2");
    }

    static void promise4_theLastLeafGetsWhatIsLeft() {
        duePacked(6, 2, "4 2/2");
        duePacked(7, 2, "4 3/2");
        duePacked(8, 2, "4 4/2");
        duePacked(9, 3, "4 4 1/3");
    }

    static void promise4_fourFullLeavesHaveOneNodeAboveThem() {
        duePacked(16, 4, "4 4 4 4/4");
    }

    static void promise4_theFifthLeafIsLeftToANodeOfItsOwn() {
        duePacked(17, 5, "4 4 4 4 1/4 1/2");
        duePacked(20, 5, "4 4 4 4 4/4 1/2");
        duePacked(21, 6, "4 4 4 4 4 1/4 2/2");
    }

    static void promise4_theLastNodeGetsTheLeavesThatAreLeft() {
        duePacked(32, 8, "4 4 4 4 4 4 4 4/4 4/2");
        duePacked(33, 9, "4 4 4 4 4 4 4 4 1/4 4 1/3");
        duePacked(48, 12, "4 4 4 4 4 4 4 4 4 4 4 4/4 4 4/3");
        duePacked(49, 13, "4 4 4 4 4 4 4 4 4 4 4 4 1/4 4 4 1/4");
    }

    static void promise4_60Boxes() {
        duePacked(59, 15, "4 4 4 4 4 4 4 4 4 4 4 4 4 4 3/4 4 4 3/4");
        duePacked(60, 15, "4 4 4 4 4 4 4 4 4 4 4 4 4 4 4/4 4 4 3/4");
    }

    static void promise4_100Added() {
        Planted tree = unpacked(60);
        for (int i = 0; i < 40; i++) {
            tree.removeAt(0);
            tree.addKey(40000 + i);
        }
        due("pack()", 15, tree::pack);
        dueTree("4 4 4 4 4 4 4 4 4 4 4 4 4 4 4/4 4 4 3/4", tree);
    }

    // ---- from which tree

    static void promise4_aPackedTreeStaysAsItIs() {
        duePackedFrom("4 4 4 4 1/4 1/2", 5, "4 4 4 4 1/4 1/2");
        duePackedFrom("4", 1, "4");
    }

    static void promise4_leavesOfTwoBecomeFewer() {
        duePackedFrom("2 2/2", 1, "4");
        duePackedFrom("2 2 2 2/4", 2, "4 4/2");
        duePackedFrom("2 2 2 2 1/4 1/2", 3, "4 4 1/3");
    }

    static void promise4_theTreeGetsLower() {
        duePackedFrom("2 2 2 2 2 2/2 2 2/3", 3, "4 4 4/3");
        Planted tree = Planted.of("4 4 2 2 2 2 2 2 2 2 2 2 2 2 2/4 4 4 3/4");
        tree.addTo(0);
        due("levels() before", 4, tree.made()::levels);
        due("pack()", 9, tree::pack);
        dueTree("4 4 4 4 4 4 4 4 3/4 4 1/3", tree);
    }

    static void promise4_theBoxesKeepTheirOrderAndTheirNumbers() {
        Planted tree = Planted.of("");
        int[] keys = {500, 400, 500, 300, 500, 0, 65535};
        for (int key : keys) {
            tree.addKey(key);
        }
        tree.removeAt(2);
        due("pack()", 2, tree::pack);
        dueTree("4 2/2", tree);
        due("the order", "[5, 3, 0, 2, 4, 6]", () -> Checks.order(tree.made()));
    }

    static void promise4_theSecondPackingAnswersTheSame() {
        Planted tree = unpacked(17);
        due("pack()", 5, tree::pack);
        due("pack() again", 5, tree::pack);
        dueTree("4 4 4 4 1/4 1/2", tree);
    }

    // ---- what follows

    static void promise4_aBoxMoreThanAFullLeafDividesIt() {
        Planted tree = unpacked(4);
        tree.pack();
        tree.addKey(1);
        dueTree("3 2/2", tree);
    }

    static void promise4_aBoxBehindAPackedTreeGoesToTheLeafOfOne() {
        Planted tree = unpacked(5);
        tree.pack();
        tree.addKey(60000);
        dueTree("4 2/2", tree);
    }

    static void promise4_theOnlyBoxOfAPackedLeafIsRemoved() {
        Planted tree = unpacked(17);
        tree.pack();
        tree.removeAt(16);
        dueTree("4 4 4 4/4", tree);
    }

    static void promise4_aBoxLessIsPackedIntoALeafLess() {
        Planted tree = unpacked(17);
        tree.pack();
        tree.removeAt(0);
        due("pack()", 4, tree::pack);
        dueTree("4 4 4 4/4", tree);
    }
}
