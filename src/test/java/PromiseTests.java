import java.util.Arrays;

/** For each promise of the document: ordinary calls, the edges that it names, and wrong arguments. */
public final class PromiseTests {
    private static final String ARGUMENT = "IllegalArgumentException";
    private static final String INDEX = "IndexOutOfBoundsException";
    private static final String STATE = "IllegalStateException";

    /** Rows x1, y1, x2, y2 with a side out of range. */
    private static final int[][] WRONG_SIDES = {
        {-1, 0, 5, 5}, {0, -1, 5, 5}, {0, 0, 256, 5}, {0, 0, 5, 256}, {6, 0, 5, 5}, {0, 6, 5, 5},
        {256, 0, 256, 5}, {0, 256, 5, 256}, {-5, 0, -1, 5}, {0, -5, 5, -1},
        {Integer.MIN_VALUE, 0, 5, 5}, {0, 0, Integer.MAX_VALUE, 5},
    };
    private static final int[][] WRONG_POINTS = {
        {-1, 0}, {0, -1}, {256, 0}, {0, 256}, {Integer.MIN_VALUE, 0}, {0, Integer.MAX_VALUE},
    };
    private static final int[] WRONG_SIDE_NUMBERS = {-1, 4, Integer.MIN_VALUE, Integer.MAX_VALUE};
    private static final int[] FAR_INDICES = {-1, Integer.MIN_VALUE, Integer.MAX_VALUE, 1 << 30, 100};

    private static final Checks CHECKS = new Checks();

    public static void main(String[] args) {
        promise1NewObject();
        promise2Add();
        promise2AddSplitsAndShares();
        promise2AddOnHigherLevels();
        promise2AddLimits();
        promise3Remove();
        promise3RemoveMendsLeaves();
        promise3RemoveMendsHigherLevels();
        promise4Pack();
        promise5Boxes();
        promise6Key();
        promise7KeyOf();
        promise8SideOf();
        promise9Levels();
        promise10Nodes();
        promise11Entries();
        promise12Cover();
        promise13LeafOf();
        promise14BoxAt();
        promise15Tightness();
        promise16Count();
        promise17Found();
        promise18Visits();
        promise19Nearest();
        promise20Distance();
        promise21Pairs();
        promise22Pair();
        failedCallsChangeNothing();
        CHECKS.end();
    }

    private static void due(String call, Object want, Checks.Call got) {
        CHECKS.due(call, want, got);
    }

    private static void dueShape(String what, String want, HilbertHutch hutch) {
        CHECKS.due("the shape " + what, want, () -> Checks.shape(hutch));
    }

    /** Three boxes: 0 and 1 meet in the column 10, 1 and 2 in one point, and 0 and 2 do not meet. */
    private static HilbertHutch three() {
        HilbertHutch hutch = new HilbertHutch();
        hutch.add(0, 0, 10, 10);
        hutch.add(10, 0, 20, 10);
        hutch.add(20, 10, 30, 20);
        return hutch;
    }

    private static void promise1NewObject() {
        CHECKS.part("promise 1");
        HilbertHutch hutch = new HilbertHutch();
        due("boxes()", 0, hutch::boxes);
        due("levels()", 0, hutch::levels);
        due("pairs()", 0, hutch::pairs);
        due("boxAt(0)", INDEX, () -> hutch.boxAt(0));
        due("nodes(0)", INDEX, () -> hutch.nodes(0));
        due("count of all", 0, () -> hutch.count(0, 0, 255, 255));
        due("visits of all", 0, () -> hutch.visits(0, 0, 255, 255));
        due("tightness()", STATE, hutch::tightness);
        HilbertHutch other = new HilbertHutch();
        other.add(1, 2, 3, 4);
        due("boxes() beside another object", 0, hutch::boxes);
    }

    private static void promise2Add() {
        CHECKS.part("promise 2");
        HilbertHutch hutch = new HilbertHutch();
        due("the first box", 0, () -> hutch.add(0, 0, 255, 255));
        due("a point in the corner", 1, () -> hutch.add(0, 0, 0, 0));
        due("a point in the other corner", 2, () -> hutch.add(255, 255, 255, 255));
        due("the same box again", 3, () -> hutch.add(0, 0, 255, 255));
        for (int[] s : WRONG_SIDES) {
            due("add" + Arrays.toString(s), ARGUMENT, () -> hutch.add(s[0], s[1], s[2], s[3]));
        }
        due("the number behind wrong calls", 4, () -> hutch.add(7, 8, 9, 10));
        hutch.remove(4);
        due("the number behind a removed box", 5, () -> hutch.add(7, 8, 9, 10));
        due("boxes()", 5, hutch::boxes);

        HilbertHutch equal = Checks.withBoxes(2);
        Checks.addKeys(equal, 100, 200, 100);
        due("equal keys in the order of numbers", "[0, 2, 4, 1, 3]", () -> Checks.order(equal));
    }

    private static void promise2AddSplitsAndShares() {
        CHECKS.part("promise 2, leaves");
        String[] rising = {
            "1", "2", "3", "4", "3 2/2", "3 3/2", "3 4/2", "4 4/2", "3 3 3/3", "3 3 4/3", "3 4 4/3",
            "3 3 3 3/4", "3 3 3 4/4", "3 3 4 4/4", "3 3 3 3 3/3 2/2",
        };
        for (int boxes = 1; boxes <= rising.length; boxes++) {
            dueShape("of " + boxes + " rising boxes", rising[boxes - 1], Checks.withBoxes(boxes));
        }
        String[] falling = {"1", "2", "3", "4", "3 2/2", "4 2/2", "4 3/2", "4 4/2", "3 3 3/3"};
        HilbertHutch hutch = new HilbertHutch();
        for (int boxes = 1; boxes <= falling.length; boxes++) {
            Checks.addKeys(hutch, 1000 - boxes);
            dueShape("of " + boxes + " falling boxes", falling[boxes - 1], hutch);
        }

        HilbertHutch right = Checks.withBoxes(9);
        Checks.addKeys(right, 501, 502);
        dueShape("with a full middle leaf, which shares to the right", "3 4 4/3", right);
        due("its order", "[0, 1, 2, 3, 4, 9, 10, 5, 6, 7, 8]", () -> Checks.order(right));

        HilbertHutch own = Checks.withBoxes(15);
        Checks.addKeys(own, 701, 702);
        dueShape("with a leaf that shares to the left, below the same node", "3 4 4 3 3/3 2/2", own);

        HilbertHutch before = Checks.withBoxes(5);
        Checks.addKeys(before, 301);
        dueShape("with a box between the leaves, which goes to the right one", "3 3/2", before);
        HilbertHutch same = Checks.withBoxes(5);
        Checks.addKeys(same, 300);
        dueShape("with a box of the key of a last one, which goes behind it", "3 3/2", same);
        HilbertHutch ahead = Checks.withBoxes(5);
        Checks.addKeys(ahead, 299);
        dueShape("with a box ahead of a last one", "4 2/2", ahead);

        HilbertHutch odd = Checks.withBoxes(7);
        odd.remove(1);
        Checks.addKeys(odd, 800);
        dueShape("with a last leaf that shares seven to the left", "4 3/2", odd);
    }

    private static void promise2AddOnHigherLevels() {
        CHECKS.part("promise 2, higher levels");
        HilbertHutch divided = Checks.withBoxes(15);
        Checks.addKeys(divided, 701, 702, 703);
        dueShape("with three leaves of two", "3 3 3 3 3 3/4 2/2", divided);
        dueShape("with a node that shares to the left", "3 3 3 3 3 3 3 3/4 4/2", Checks.withBoxes(24));
        HilbertHutch right = Checks.withBoxes(15);
        Checks.addKeys(right, 101, 102, 103, 104, 105, 106);
        dueShape("with a node that shares to the right", "3 3 3 3 3 3 3/4 3/2", right);
        HilbertHutch alone = Checks.packedWithBoxes(17);
        Checks.addKeys(alone, 1701, 1702, 1703);
        dueShape("with an only leaf that is full", "4 4 4 4 4/4 1/2", alone);
        Checks.addKeys(alone, 1704);
        dueShape("with an only leaf that is divided", "4 4 4 4 3 2/4 2/2", alone);
        HilbertHutch full = Checks.packedWithBoxes(16);
        dueShape("packed", "4 4 4 4/4", full);
        Checks.addKeys(full, 101);
        dueShape("with a full root that is divided", "3 3 3 4 4/3 2/2", full);
    }

    private static void promise2AddLimits() {
        CHECKS.part("promise 2, limits");
        HilbertHutch hutch = Checks.withBoxes(60);
        due("boxes()", 60, hutch::boxes);
        due("a 61st box", STATE, () -> hutch.add(0, 0, 0, 0));
        due("a wrong 61st box", ARGUMENT, () -> hutch.add(0, 0, 0, 256));
        for (int box = 0; box < 40; box++) {
            int old = box;
            due("remove()", 59, () -> hutch.remove(old));
            due("add() of the next", 60 + old, () -> hutch.add(3, 3, 4, 4));
        }
        hutch.remove(99);
        due("a 101st box", STATE, () -> hutch.add(0, 0, 0, 0));
        due("a wrong 101st box", ARGUMENT, () -> hutch.add(1, 0, 0, 0));
        due("boxes()", 59, hutch::boxes);
    }

    private static void promise3Remove() {
        CHECKS.part("promise 3");
        HilbertHutch hutch = three();
        due("remove(3)", INDEX, () -> hutch.remove(3));
        for (int box : FAR_INDICES) {
            due("remove(" + box + ")", INDEX, () -> hutch.remove(box));
        }
        due("remove(1)", 2, () -> hutch.remove(1));
        due("remove(1) again", INDEX, () -> hutch.remove(1));
        due("the others", "[0, 2]", () -> Checks.order(hutch));
        due("remove(0)", 1, () -> hutch.remove(0));
        due("remove(2)", 0, () -> hutch.remove(2));
        due("levels()", 0, hutch::levels);
        due("remove(2) again", INDEX, () -> hutch.remove(2));
        due("add()", 3, () -> hutch.add(0, 0, 0, 0));
        dueShape("with the first box anew", "1", hutch);
    }

    private static void promise3RemoveMendsLeaves() {
        CHECKS.part("promise 3, leaves");
        HilbertHutch united = Checks.withBoxes(5);
        united.remove(4);
        dueShape("united to the left", "4", united);
        HilbertHutch right = Checks.withBoxes(7);
        right.remove(0);
        dueShape("with a leaf of two", "2 4/2", right);
        right.remove(1);
        dueShape("divided anew to the right", "3 2/2", right);
        right.remove(2);
        right.remove(3);
        dueShape("united to the right", "3", right);
        HilbertHutch left = Checks.packedWithBoxes(6);
        left.remove(5);
        dueShape("divided anew to the left", "3 2/2", left);
        HilbertHutch middle = Checks.withBoxes(9);
        middle.remove(3);
        middle.remove(4);
        dueShape("of a middle leaf united to the right", "3 4/2", middle);
        HilbertHutch last = Checks.packedWithBoxes(5);
        last.remove(4);
        dueShape("of a leaf that has lost its only box", "4", last);
        HilbertHutch root = Checks.withBoxes(2);
        root.remove(0);
        dueShape("of a leaf that is the root", "1", root);
        root.remove(1);
        dueShape("without boxes", "", root);
    }

    private static void promise3RemoveMendsHigherLevels() {
        CHECKS.part("promise 3, higher levels");
        HilbertHutch gone = Checks.packedWithBoxes(17);
        dueShape("packed", "4 4 4 4 1/4 1/2", gone);
        gone.remove(16);
        dueShape("with an only leaf taken out", "4 4 4 4/4", gone);
        HilbertHutch stays = Checks.packedWithBoxes(18);
        stays.remove(17);
        dueShape("with an only leaf that stays", "4 4 4 4 1/4 1/2", stays);
        HilbertHutch node = Checks.withBoxes(15);
        node.remove(14);
        node.remove(13);
        dueShape("with a leaf and then a node united", "3 3 3 4/4", node);
        HilbertHutch shared = Checks.packedWithBoxes(24);
        dueShape("packed", "4 4 4 4 4 4/4 2/2", shared);
        shared.remove(23);
        shared.remove(22);
        shared.remove(21);
        dueShape("with two leaves divided anew", "4 4 4 4 3 2/4 2/2", shared);
        shared.remove(20);
        dueShape("with a node divided anew", "4 4 4 4 4/3 2/2", shared);
        HilbertHutch own = Checks.withBoxes(15);
        own.remove(6);
        own.remove(7);
        dueShape("of a leaf united with one below the same node", "3 4 3 3/2 2/2", own);
    }

    private static void promise4Pack() {
        CHECKS.part("promise 4");
        String[] shapes = {
            "", "1", "2", "3", "4", "4 1/2", "4 2/2", "4 3/2", "4 4/2", "4 4 1/3", "4 4 2/3", "4 4 3/3", "4 4 4/3",
            "4 4 4 1/4", "4 4 4 2/4", "4 4 4 3/4", "4 4 4 4/4", "4 4 4 4 1/4 1/2",
        };
        for (int boxes = 0; boxes < shapes.length; boxes++) {
            HilbertHutch hutch = Checks.withBoxes(boxes);
            int leaves = (boxes + 3) / 4;
            due("pack() of " + boxes, leaves, hutch::pack);
            dueShape("of " + boxes + " boxes", shapes[boxes], hutch);
            due("pack() of " + boxes + " again", leaves, hutch::pack);
        }
        HilbertHutch most = Checks.withBoxes(60);
        due("pack() of 60", 15, most::pack);
        dueShape("of 60 boxes", "4 4 4 4 4 4 4 4 4 4 4 4 4 4 4/4 4 4 3/4", most);
        HilbertHutch order = new HilbertHutch();
        Checks.addKeys(order, 500, 400, 300, 200, 100);
        order.pack();
        due("the order", "[4, 3, 2, 1, 0]", () -> Checks.order(order));
        due("leafOf(0)", 1, () -> order.leafOf(0));
    }

    private static void promise5Boxes() {
        CHECKS.part("promise 5");
        for (int boxes = 0; boxes <= 60; boxes += 12) {
            HilbertHutch hutch = Checks.withBoxes(boxes);
            due("boxes()", boxes, hutch::boxes);
        }
        HilbertHutch hutch = three();
        hutch.remove(0);
        due("boxes() behind remove", 2, hutch::boxes);
        hutch.pack();
        due("boxes() behind pack", 2, hutch::boxes);
        Checks.answerOf(() -> hutch.add(9, 9, 8, 9));
        due("boxes() behind a wrong add", 2, hutch::boxes);
    }

    private static void promise6Key() {
        CHECKS.part("promise 6");
        int[][] small = {
            {0, 0, 0}, {1, 0, 1}, {1, 1, 2}, {0, 1, 3}, {0, 2, 4}, {0, 3, 5}, {1, 3, 6}, {1, 2, 7}, {3, 1, 12},
            {2, 1, 13}, {2, 0, 14}, {3, 0, 15}, {0, 255, 21845}, {128, 128, 32768}, {255, 255, 43690},
            {255, 0, 65535},
        };
        HilbertHutch hutch = new HilbertHutch();
        for (int[] row : small) {
            due("key(" + row[0] + ", " + row[1] + ")", row[2], () -> hutch.key(row[0], row[1]));
        }
        for (int first = 0; first < 65536; first += 256) {
            int from = first;
            due("the number of wrong keys from " + from, 0, () -> wrongKeysFrom(from));
        }
        for (int[] point : WRONG_POINTS) {
            due("key of " + point[0] + ", " + point[1], ARGUMENT, () -> hutch.key(point[0], point[1]));
        }
    }

    /** Asks a new object, as one serves 512 calls. */
    private static int wrongKeysFrom(int first) {
        HilbertHutch hutch = new HilbertHutch();
        int wrong = 0;
        for (int key = first; key < first + 256; key++) {
            int[] point = Checks.pointAt(key);
            if (hutch.key(point[0], point[1]) != key) {
                wrong++;
            }
        }
        return wrong;
    }

    private static void promise7KeyOf() {
        CHECKS.part("promise 7");
        HilbertHutch hutch = new HilbertHutch();
        hutch.add(0, 0, 2, 0);
        hutch.add(0, 0, 1, 3);
        hutch.add(0, 0, 255, 255);
        hutch.add(255, 0, 255, 1);
        hutch.add(2, 1, 3, 2);
        due("keyOf(0), of (1, 0)", 1, () -> hutch.keyOf(0));
        due("keyOf(1), of (0, 1)", 3, () -> hutch.keyOf(1));
        due("keyOf(2), of (127, 127)", 10922, () -> hutch.keyOf(2));
        due("keyOf(3), of (255, 0)", 65535, () -> hutch.keyOf(3));
        due("keyOf(4), of (2, 1)", 13, () -> hutch.keyOf(4));
        due("keyOf(5)", INDEX, () -> hutch.keyOf(5));
        for (int box : FAR_INDICES) {
            due("keyOf(" + box + ")", INDEX, () -> hutch.keyOf(box));
        }
        hutch.remove(1);
        due("keyOf(1), removed", INDEX, () -> hutch.keyOf(1));
        due("keyOf(2) behind it", 10922, () -> hutch.keyOf(2));
    }

    private static void promise8SideOf() {
        CHECKS.part("promise 8");
        HilbertHutch hutch = new HilbertHutch();
        hutch.add(1, 20, 130, 240);
        hutch.add(0, 0, 255, 255);
        int[] sides = {1, 20, 130, 240, 0, 0, 255, 255};
        for (int i = 0; i < sides.length; i++) {
            int box = i / 4;
            int side = i % 4;
            due("sideOf(" + box + ", " + side + ")", sides[i], () -> hutch.sideOf(box, side));
        }
        for (int side : WRONG_SIDE_NUMBERS) {
            due("sideOf(0, " + side + ")", ARGUMENT, () -> hutch.sideOf(0, side));
            due("sideOf(9, " + side + ")", ARGUMENT, () -> hutch.sideOf(9, side));
        }
        for (int box : FAR_INDICES) {
            due("sideOf(" + box + ", 0)", INDEX, () -> hutch.sideOf(box, 0));
        }
        due("sideOf(2, 3)", INDEX, () -> hutch.sideOf(2, 3));
        hutch.remove(0);
        due("sideOf(0, 3), removed", INDEX, () -> hutch.sideOf(0, 3));
        due("sideOf(1, 3) behind it", 255, () -> hutch.sideOf(1, 3));
    }

    private static void promise9Levels() {
        CHECKS.part("promise 9");
        int[][] rows = {{0, 0}, {1, 1}, {4, 1}, {5, 2}, {14, 2}, {15, 3}};
        for (int[] row : rows) {
            HilbertHutch hutch = Checks.withBoxes(row[0]);
            due("levels() of " + row[0] + " boxes", row[1], hutch::levels);
        }
        HilbertHutch hutch = Checks.withBoxes(15);
        hutch.pack();
        due("levels() of 15 packed boxes", 2, hutch::levels);
    }

    private static void promise10Nodes() {
        CHECKS.part("promise 10");
        HilbertHutch hutch = Checks.packedWithBoxes(17);
        due("nodes(0)", 5, () -> hutch.nodes(0));
        due("nodes(1)", 2, () -> hutch.nodes(1));
        due("nodes(2)", 1, () -> hutch.nodes(2));
        due("nodes(3)", INDEX, () -> hutch.nodes(3));
        for (int level : FAR_INDICES) {
            due("nodes(" + level + ")", INDEX, () -> hutch.nodes(level));
        }
        hutch.remove(16);
        due("nodes(2) of a lower tree", INDEX, () -> hutch.nodes(2));
        due("nodes(0) without boxes", INDEX, () -> new HilbertHutch().nodes(0));
    }

    private static void promise11Entries() {
        CHECKS.part("promise 11");
        HilbertHutch hutch = Checks.packedWithBoxes(17);
        due("entries(0, 0)", 4, () -> hutch.entries(0, 0));
        due("entries(0, 4)", 1, () -> hutch.entries(0, 4));
        due("entries(1, 0)", 4, () -> hutch.entries(1, 0));
        due("entries(1, 1)", 1, () -> hutch.entries(1, 1));
        due("entries(2, 0)", 2, () -> hutch.entries(2, 0));
        due("entries(0, 5)", INDEX, () -> hutch.entries(0, 5));
        due("entries(1, 2)", INDEX, () -> hutch.entries(1, 2));
        due("entries(2, 1)", INDEX, () -> hutch.entries(2, 1));
        due("entries(3, 0)", INDEX, () -> hutch.entries(3, 0));
        for (int index : FAR_INDICES) {
            due("entries(" + index + ", 0)", INDEX, () -> hutch.entries(index, 0));
            due("entries(0, " + index + ")", INDEX, () -> hutch.entries(0, index));
        }
        due("entries(0, 0) without boxes", INDEX, () -> new HilbertHutch().entries(0, 0));
    }

    private static void promise12Cover() {
        CHECKS.part("promise 12");
        HilbertHutch hutch = new HilbertHutch();
        hutch.add(5, 6, 7, 8);
        dueCover(hutch, 0, 0, 5, 6, 7, 8);
        hutch.add(4, 9, 5, 12);
        dueCover(hutch, 0, 0, 4, 6, 7, 12);
        hutch.add(200, 0, 255, 20);
        hutch.add(210, 3, 220, 40);
        hutch.add(190, 5, 250, 30);
        dueShape("of five boxes", "3 2/2", hutch);
        dueCover(hutch, 1, 0, 4, 0, 255, 40);
        hutch.remove(2);
        dueCover(hutch, 0, 0, 4, 3, 250, 40);
        for (int side : WRONG_SIDE_NUMBERS) {
            due("cover(0, 0, " + side + ")", ARGUMENT, () -> hutch.cover(0, 0, side));
            due("cover(9, 9, " + side + ")", ARGUMENT, () -> hutch.cover(9, 9, side));
        }
        for (int index : FAR_INDICES) {
            due("cover(" + index + ", 0, 0)", INDEX, () -> hutch.cover(index, 0, 0));
            due("cover(0, " + index + ", 0)", INDEX, () -> hutch.cover(0, index, 0));
        }
        due("cover(0, 1, 0)", INDEX, () -> hutch.cover(0, 1, 0));
        HilbertHutch row = new HilbertHutch();
        for (int i = 0; i < 17; i++) {
            row.add(0, 10 * i, 3, 10 * i + 5);
        }
        row.pack();
        dueCover(row, 2, 0, 0, 0, 3, 165);
        int last = row.boxAt(16);
        int bottom = row.sideOf(last, 1);
        dueCover(row, 1, 1, 0, bottom, 3, bottom + 5);
        dueCover(row, 0, 4, 0, bottom, 3, bottom + 5);
    }

    private static void dueCover(HilbertHutch hutch, int level, int node, int... sides) {
        for (int i = 0; i < sides.length; i++) {
            int side = i;
            due("cover(" + level + ", " + node + ", " + side + ")", sides[i], () -> hutch.cover(level, node, side));
        }
    }

    private static void promise13LeafOf() {
        CHECKS.part("promise 13");
        HilbertHutch hutch = Checks.withBoxes(9);
        for (int i = 0; i < 9; i++) {
            int box = i;
            due("leafOf(" + box + ")", box / 3, () -> hutch.leafOf(box));
        }
        due("leafOf(9)", INDEX, () -> hutch.leafOf(9));
        for (int box : FAR_INDICES) {
            due("leafOf(" + box + ")", INDEX, () -> hutch.leafOf(box));
        }
        hutch.pack();
        due("leafOf(3) when packed", 0, () -> hutch.leafOf(3));
        due("leafOf(8) when packed", 2, () -> hutch.leafOf(8));
        hutch.remove(3);
        due("leafOf(3), removed", INDEX, () -> hutch.leafOf(3));
        due("leafOf(4) behind it", 1, () -> hutch.leafOf(4));
    }

    private static void promise14BoxAt() {
        CHECKS.part("promise 14");
        HilbertHutch hutch = new HilbertHutch();
        Checks.addKeys(hutch, 40000, 5, 65535, 0, 5);
        int[] order = {3, 1, 4, 0, 2};
        for (int i = 0; i < order.length; i++) {
            int place = i;
            due("boxAt(" + place + ")", order[i], () -> hutch.boxAt(place));
        }
        due("boxAt(5)", INDEX, () -> hutch.boxAt(5));
        for (int place : FAR_INDICES) {
            due("boxAt(" + place + ")", INDEX, () -> hutch.boxAt(place));
        }
        hutch.remove(1);
        due("boxAt(1) behind remove", 4, () -> hutch.boxAt(1));
        due("boxAt(4) behind remove", INDEX, () -> hutch.boxAt(4));
        due("boxAt(0) without boxes", INDEX, () -> new HilbertHutch().boxAt(0));
    }

    private static void promise15Tightness() {
        CHECKS.part("promise 15");
        HilbertHutch hutch = new HilbertHutch();
        due("tightness() without boxes", STATE, hutch::tightness);
        hutch.add(0, 0, 0, 0);
        due("tightness() of a point", 1.0f, hutch::tightness);
        hutch.add(2, 0, 2, 0);
        due("tightness() of two points in three", (float) 2 / (float) 3, hutch::tightness);
        hutch.add(0, 0, 2, 0);
        due("tightness() of overlapping boxes", (float) 5 / (float) 3, hutch::tightness);
        hutch.add(0, 0, 255, 255);
        due("tightness() of all points", (float) 65541 / (float) 65536, hutch::tightness);
        hutch.add(200, 200, 209, 219);
        dueShape("of two leaves", "3 2/2", hutch);
        due("tightness() of two leaves", (float) 65741 / (float) 65539, hutch::tightness);
        for (int box = 0; box < 5; box++) {
            hutch.remove(box);
        }
        due("tightness() without boxes again", STATE, hutch::tightness);
        HilbertHutch most = new HilbertHutch();
        for (int i = 0; i < 60; i++) {
            most.add(0, 0, 255, 255);
        }
        most.pack();
        due("tightness() of 60 great boxes", 4.0f, most::tightness);
    }

    private static void promise16Count() {
        CHECKS.part("promise 16");
        HilbertHutch hutch = three();
        due("count of all", 3, () -> hutch.count(0, 0, 255, 255));
        due("count of the common column", 2, () -> hutch.count(10, 0, 10, 10));
        due("count left of it", 1, () -> hutch.count(0, 0, 9, 10));
        due("count of the common point", 2, () -> hutch.count(20, 10, 20, 10));
        due("count inside a box", 1, () -> hutch.count(25, 15, 26, 16));
        due("count right of all", 0, () -> hutch.count(31, 0, 255, 255));
        due("count above all", 0, () -> hutch.count(0, 21, 255, 255));
        due("count above the first two", 1, () -> hutch.count(0, 11, 255, 255));
        due("count of nothing between", 0, () -> hutch.count(0, 11, 19, 20));
        hutch.remove(1);
        due("count behind remove", 1, () -> hutch.count(10, 0, 10, 10));
        for (int[] s : WRONG_SIDES) {
            due("count" + Arrays.toString(s), ARGUMENT, () -> hutch.count(s[0], s[1], s[2], s[3]));
        }
    }

    private static void promise17Found() {
        CHECKS.part("promise 17");
        HilbertHutch hutch = new HilbertHutch();
        Checks.addKeys(hutch, 15, 2, 14, 0);
        int[] order = {3, 1, 2, 0};
        for (int i = 0; i < order.length; i++) {
            int place = i;
            due("found of all, " + place, order[i], () -> hutch.found(0, 0, 255, 255, place));
        }
        due("found of all, 4", INDEX, () -> hutch.found(0, 0, 255, 255, 4));
        due("found in part, 0", 2, () -> hutch.found(2, 0, 3, 0, 0));
        due("found in part, 1", 0, () -> hutch.found(2, 0, 3, 0, 1));
        due("found in part, 2", INDEX, () -> hutch.found(2, 0, 3, 0, 2));
        due("found in nothing, 0", INDEX, () -> hutch.found(100, 100, 200, 200, 0));
        for (int place : FAR_INDICES) {
            due("found of all, " + place, INDEX, () -> hutch.found(0, 0, 255, 255, place));
        }
        for (int[] s : WRONG_SIDES) {
            due("found" + Arrays.toString(s), ARGUMENT, () -> hutch.found(s[0], s[1], s[2], s[3], 0));
            due("found" + Arrays.toString(s), ARGUMENT, () -> hutch.found(s[0], s[1], s[2], s[3], -1));
        }
        hutch.remove(3);
        due("found behind remove, 0", 1, () -> hutch.found(0, 0, 255, 255, 0));
    }

    private static void promise18Visits() {
        CHECKS.part("promise 18");
        HilbertHutch hutch = new HilbertHutch();
        hutch.add(0, 0, 0, 0);
        due("visits of one leaf", 1, () -> hutch.visits(0, 0, 255, 255));
        due("visits beside it", 0, () -> hutch.visits(1, 0, 255, 255));
        hutch.add(10, 10, 10, 10);
        due("visits between the boxes", 1, () -> hutch.visits(5, 5, 5, 5));
        Checks.addKeys(hutch, 60000, 60001, 60002);
        dueShape("of five boxes", "3 2/2", hutch);
        due("visits of all", 3, () -> hutch.visits(0, 0, 255, 255));
        due("visits of the first point", 2, () -> hutch.visits(0, 0, 0, 0));
        due("visits above all", 0, () -> hutch.visits(0, 255, 255, 255));
        HilbertHutch packed = Checks.packedWithBoxes(17);
        due("visits of all of three levels", 8, () -> packed.visits(0, 0, 255, 255));
        for (int[] s : WRONG_SIDES) {
            due("visits" + Arrays.toString(s), ARGUMENT, () -> hutch.visits(s[0], s[1], s[2], s[3]));
        }
    }

    private static void promise19Nearest() {
        CHECKS.part("promise 19");
        HilbertHutch hutch = new HilbertHutch();
        hutch.add(100, 100, 110, 110);
        hutch.add(90, 100, 95, 110);
        hutch.add(0, 0, 255, 255);
        hutch.add(115, 100, 120, 110);
        hutch.add(97, 96, 97, 96);
        // From (105, 105): 0 for the boxes 0 and 2, 100 for 1 and 3, and 64 + 81 for 4.
        int[] order = {0, 2, 1, 3, 4};
        for (int i = 0; i < order.length; i++) {
            int place = i;
            due("nearest(105, 105, " + place + ")", order[i], () -> hutch.nearest(105, 105, place));
        }
        due("nearest(105, 105, 5)", INDEX, () -> hutch.nearest(105, 105, 5));
        due("nearest(255, 255, 1)", 3, () -> hutch.nearest(255, 255, 1));
        for (int place : FAR_INDICES) {
            due("nearest(105, 105, " + place + ")", INDEX, () -> hutch.nearest(105, 105, place));
        }
        for (int[] p : WRONG_POINTS) {
            due("nearest of a wrong point", ARGUMENT, () -> hutch.nearest(p[0], p[1], 0));
            due("nearest of a wrong point and place", ARGUMENT, () -> hutch.nearest(p[0], p[1], -1));
        }
        hutch.remove(0);
        due("nearest behind remove", 2, () -> hutch.nearest(105, 105, 0));
        due("nearest without boxes", INDEX, () -> new HilbertHutch().nearest(0, 0, 0));
        HilbertHutch far = new HilbertHutch();
        far.add(255, 255, 255, 255);
        far.add(255, 254, 255, 254);
        due("nearest from the far corner", 1, () -> far.nearest(0, 0, 0));
        due("nearest of the far corner", 0, () -> far.nearest(0, 0, 1));
    }

    private static void promise20Distance() {
        CHECKS.part("promise 20");
        HilbertHutch hutch = new HilbertHutch();
        hutch.add(100, 50, 110, 70);
        int[][] rows = {
            {100, 50, 0}, {110, 70, 0}, {105, 60, 0}, {99, 60, 1}, {111, 60, 1}, {105, 49, 1}, {105, 71, 1},
            {97, 46, 25}, {113, 74, 25}, {97, 74, 25}, {113, 46, 25}, {0, 0, 12500}, {255, 255, 55250},
        };
        for (int[] row : rows) {
            due("distance(" + row[0] + ", " + row[1] + ", 0)", row[2], () -> hutch.distance(row[0], row[1], 0));
        }
        due("distance(0, 0, 1)", INDEX, () -> hutch.distance(0, 0, 1));
        for (int box : FAR_INDICES) {
            due("distance(0, 0, " + box + ")", INDEX, () -> hutch.distance(0, 0, box));
        }
        for (int[] p : WRONG_POINTS) {
            due("distance of a wrong point", ARGUMENT, () -> hutch.distance(p[0], p[1], 0));
            due("distance of a wrong point and box", ARGUMENT, () -> hutch.distance(p[0], p[1], 1));
        }
        hutch.add(255, 255, 255, 255);
        due("distance of the corners", 130050, () -> hutch.distance(0, 0, 1));
        hutch.remove(0);
        due("distance of a removed box", INDEX, () -> hutch.distance(0, 0, 0));
    }

    private static void promise21Pairs() {
        CHECKS.part("promise 21");
        HilbertHutch hutch = three();
        due("pairs()", 2, hutch::pairs);
        hutch.add(0, 0, 255, 255);
        due("pairs() with a box round all", 5, hutch::pairs);
        hutch.remove(1);
        due("pairs() behind remove", 2, hutch::pairs);
        hutch.pack();
        due("pairs() behind pack", 2, hutch::pairs);
        HilbertHutch apart = Checks.withBoxes(20);
        due("pairs() of boxes apart", 0, apart::pairs);
        HilbertHutch most = new HilbertHutch();
        for (int i = 0; i < 60; i++) {
            most.add(9, 9, 9, 9);
        }
        due("pairs() of 60 equal boxes", 1770, most::pairs);
        for (int box = 0; box < 40; box++) {
            most.remove(box);
            most.add(9, 9, 9, 9);
        }
        due("pairs() with numbers up to 99", 1770, most::pairs);
    }

    private static void promise22Pair() {
        CHECKS.part("promise 22");
        HilbertHutch hutch = three();
        hutch.add(0, 0, 255, 255);
        int[] pairs = {1, 3, 102, 103, 203};
        for (int i = 0; i < pairs.length; i++) {
            int place = i;
            due("pair(" + place + ")", pairs[i], () -> hutch.pair(place));
        }
        due("pair(5)", INDEX, () -> hutch.pair(5));
        for (int place : FAR_INDICES) {
            due("pair(" + place + ")", INDEX, () -> hutch.pair(place));
        }
        hutch.remove(1);
        due("pair(0) behind remove", 3, () -> hutch.pair(0));
        due("pair(1) behind remove", 203, () -> hutch.pair(1));
        due("pair(2) behind remove", INDEX, () -> hutch.pair(2));
        due("pair(0) without boxes", INDEX, () -> new HilbertHutch().pair(0));
        HilbertHutch most = Checks.withBoxes(60);
        for (int box = 0; box < 40; box++) {
            most.remove(box);
            most.add(0, 0, 0, 0);
        }
        due("the last pair with numbers up to 99", 9899, () -> most.pair(most.pairs() - 1));
    }

    private static void failedCallsChangeNothing() {
        CHECKS.part("calls that throw");
        HilbertHutch hutch = Checks.packedWithBoxes(17);
        String shape = Checks.shape(hutch);
        String order = Checks.order(hutch).toString();
        due("remove(17)", INDEX, () -> hutch.remove(17));
        due("remove(-1)", INDEX, () -> hutch.remove(-1));
        due("add(0, 0, -1, 0)", ARGUMENT, () -> hutch.add(0, 0, -1, 0));
        due("nearest(0, 0, 17)", INDEX, () -> hutch.nearest(0, 0, 17));
        due("found(0, 0, 255, 255, 17)", INDEX, () -> hutch.found(0, 0, 255, 255, 17));
        due("pair(0)", INDEX, () -> hutch.pair(0));
        due("nodes(3)", INDEX, () -> hutch.nodes(3));
        dueShape("behind wrong calls", shape, hutch);
        due("the order behind wrong calls", order, () -> Checks.order(hutch));
        due("the next number", 17, () -> hutch.add(0, 0, 0, 0));
    }
}
