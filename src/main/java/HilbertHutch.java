/** A tree of boxes in the order of a Hilbert curve. */
public final class HilbertHutch {
    private static final int MOST_NUMBERS = 100;
    private static final int MOST_BOXES = 60;
    private static final int MOST_ENTRIES = 4;
    private static final int LAST_COORDINATE = 255;

    private static final int LEFT = 0;
    private static final int LOWER = 1;
    private static final int RIGHT = 2;
    private static final int UPPER = 3;

    private final Stock stock;
    private final Tree tree;

    /** The order of the boxes by distance, made anew by each question about the nearest ones. */
    private final int[] ranks = new int[MOST_BOXES];

    public HilbertHutch() {
        stock = new Stock();
        tree = new Tree();
    }

    // ---- boxes

    public int add(int x1, int y1, int x2, int y2) throws IllegalArgumentException, IllegalStateException {
        checkSides(x1, y1, x2, y2);
        if (!stock.hasRoom()) {
            throw new IllegalStateException("no further box can be added");
        }
        int box = stock.putIn(Area.of(x1, y1, x2, y2));
        tree.grow(stock.placeOf(box));
        return box;
    }

    public int remove(int box) throws IndexOutOfBoundsException {
        checkBox(box);
        tree.shrink(stock.placeOf(box));
        stock.takeOut(box);
        return stock.size();
    }

    public int pack() {
        tree.planAnew(stock.size());
        return tree.width(0);
    }

    public int boxes() {
        return stock.size();
    }

    public int key(int x, int y) throws IllegalArgumentException {
        checkPoint(x, y);
        return Curve.lengthTo(x, y);
    }

    public int keyOf(int box) throws IndexOutOfBoundsException {
        checkBox(box);
        return stock.keyFor(box);
    }

    public int sideOf(int box, int side) throws IllegalArgumentException, IndexOutOfBoundsException {
        checkSide(side);
        checkBox(box);
        return Area.side(stock.areaOf(box), side);
    }

    // ---- the tree

    public int levels() {
        return tree.height();
    }

    public int nodes(int level) throws IndexOutOfBoundsException {
        if (!tree.hasLevel(level)) {
            throw new IndexOutOfBoundsException("no such level");
        }
        return tree.width(level);
    }

    public int entries(int level, int node) throws IndexOutOfBoundsException {
        checkNode(level, node);
        return tree.load(level, node);
    }

    public int cover(int level, int node, int side) throws IllegalArgumentException, IndexOutOfBoundsException {
        checkSide(side);
        checkNode(level, node);
        return Area.side(coverOf(level, node), side);
    }

    public int leafOf(int box) throws IndexOutOfBoundsException {
        checkBox(box);
        return tree.holder(0, stock.placeOf(box));
    }

    public int boxAt(int place) throws IndexOutOfBoundsException {
        if (place < 0 || place >= stock.size()) {
            throw new IndexOutOfBoundsException("no such place");
        }
        return stock.numberAt(place);
    }

    public float tightness() throws IllegalStateException {
        int covered = 0;
        for (int leaf = 0; leaf < tree.width(0); leaf++) {
            covered += Area.points(coverOf(0, leaf));
        }
        // Each leaf covers a point at least, so only a tree without boxes covers none.
        if (covered <= 0) {
            throw new IllegalStateException("there are no boxes");
        }
        int filled = 0;
        for (int place = 0; place < stock.size(); place++) {
            filled += Area.points(stock.areaAt(place));
        }
        return (float) filled / (float) covered;
    }

    // ---- boxes that meet a box

    public int count(int x1, int y1, int x2, int y2) throws IllegalArgumentException {
        checkSides(x1, y1, x2, y2);
        int area = Area.of(x1, y1, x2, y2);
        int met = 0;
        for (int place = 0; place < stock.size(); place++) {
            if (Area.meet(stock.areaAt(place), area)) {
                met++;
            }
        }
        return met;
    }

    public int found(int x1, int y1, int x2, int y2, int place)
            throws IllegalArgumentException, IndexOutOfBoundsException {
        checkSides(x1, y1, x2, y2);
        int area = Area.of(x1, y1, x2, y2);
        int met = 0;
        for (int at = 0; at < stock.size(); at++) {
            if (Area.meet(stock.areaAt(at), area)) {
                if (met == place) {
                    return stock.numberAt(at);
                }
                met++;
            }
        }
        throw new IndexOutOfBoundsException("no such place");
    }

    public int visits(int x1, int y1, int x2, int y2) throws IllegalArgumentException {
        checkSides(x1, y1, x2, y2);
        int area = Area.of(x1, y1, x2, y2);
        int met = 0;
        for (int level = 0; level < tree.height(); level++) {
            for (int node = 0; node < tree.width(level); node++) {
                if (Area.meet(coverOf(level, node), area)) {
                    met++;
                }
            }
        }
        return met;
    }

    // ---- nearest boxes

    public int nearest(int x, int y, int place) throws IllegalArgumentException, IndexOutOfBoundsException {
        checkPoint(x, y);
        rankByDistance(x, y);
        for (int at = 0; at < stock.size(); at++) {
            if (ranksBefore(at) == place) {
                return stock.numberAt(at);
            }
        }
        throw new IndexOutOfBoundsException("no such place");
    }

    public int distance(int x, int y, int box) throws IllegalArgumentException, IndexOutOfBoundsException {
        checkPoint(x, y);
        checkBox(box);
        return Area.distanceFrom(stock.areaOf(box), x, y);
    }

    // ---- pairs

    public int pairs() {
        int met = 0;
        for (int low = 0; low < stock.added(); low++) {
            for (int high = low + 1; high < stock.added(); high++) {
                if (stock.haveMet(low, high)) {
                    met++;
                }
            }
        }
        return met;
    }

    public int pair(int place) throws IndexOutOfBoundsException {
        int met = 0;
        for (int low = 0; low < stock.added(); low++) {
            for (int high = low + 1; high < stock.added(); high++) {
                if (stock.haveMet(low, high)) {
                    if (met == place) {
                        return 100 * low + high;
                    }
                    met++;
                }
            }
        }
        throw new IndexOutOfBoundsException("no such place");
    }

    // ---- what the calls share

    private static boolean isCoordinate(int value) {
        return value >= 0 && value <= LAST_COORDINATE;
    }

    private static void checkPoint(int x, int y) {
        if (!isCoordinate(x) || !isCoordinate(y)) {
            throw new IllegalArgumentException("a coordinate is out of range");
        }
    }

    private static void checkSides(int x1, int y1, int x2, int y2) {
        if (!isCoordinate(x1) || !isCoordinate(y1) || !isCoordinate(x2) || !isCoordinate(y2) || x1 > x2 || y1 > y2) {
            throw new IllegalArgumentException("a side is out of range");
        }
    }

    private static void checkSide(int side) {
        if (side < LEFT || side > UPPER) {
            throw new IllegalArgumentException("no such side");
        }
    }

    private void checkBox(int box) {
        if (!stock.has(box)) {
            throw new IndexOutOfBoundsException("no such box");
        }
    }

    private void checkNode(int level, int node) {
        if (!tree.hasNode(level, node)) {
            throw new IndexOutOfBoundsException("no such level or node");
        }
    }

    private int coverOf(int level, int node) {
        int first = tree.boxesBefore(level, node);
        int end = tree.boxesBefore(level, node + 1);
        int area = stock.areaAt(first);
        for (int place = first + 1; place < end; place++) {
            area = Area.around(area, stock.areaAt(place));
        }
        return area;
    }

    /** A rank is the distance and, behind it, the number, so that equally near boxes have different ranks. */
    private void rankByDistance(int x, int y) {
        for (int at = 0; at < ranks.length && at < stock.size(); at++) {
            int distance = Area.distanceFrom(stock.areaAt(at), x, y);
            ranks[at] = distance * MOST_NUMBERS + stock.numberAt(at);
        }
    }

    private int ranksBefore(int at) {
        if (at < 0 || at >= ranks.length) {
            return -1;
        }
        int rank = ranks[at];
        int before = 0;
        for (int other = 0; other < ranks.length && other < stock.size(); other++) {
            if (ranks[other] < rank) {
                before++;
            }
        }
        return before;
    }

    /** An area is one int with a byte for each side, so that no call needs an object for one. */
    private static final class Area {
        static int of(int left, int lower, int right, int upper) {
            return left | lower << 8 | right << 16 | upper << 24;
        }

        static int side(int area, int side) {
            return (area >>> 8 * side) & 255;
        }

        static boolean meet(int one, int other) {
            return side(one, LEFT) <= side(other, RIGHT) && side(other, LEFT) <= side(one, RIGHT)
                    && side(one, LOWER) <= side(other, UPPER) && side(other, LOWER) <= side(one, UPPER);
        }

        /** The smallest area that contains both. */
        static int around(int one, int other) {
            return of(Math.min(side(one, LEFT), side(other, LEFT)),
                    Math.min(side(one, LOWER), side(other, LOWER)),
                    Math.max(side(one, RIGHT), side(other, RIGHT)),
                    Math.max(side(one, UPPER), side(other, UPPER)));
        }

        static int points(int area) {
            return (side(area, RIGHT) - side(area, LEFT) + 1) * (side(area, UPPER) - side(area, LOWER) + 1);
        }

        static int distanceFrom(int area, int x, int y) {
            int dx = gap(side(area, LEFT), side(area, RIGHT), x);
            int dy = gap(side(area, LOWER), side(area, UPPER), y);
            return dx * dx + dy * dy;
        }

        private static int gap(int low, int high, int value) {
            return Math.max(0, Math.max(low - value, value - high));
        }

        static int middleKey(int area) {
            int x = (side(area, LEFT) + side(area, RIGHT)) / 2;
            int y = (side(area, LOWER) + side(area, UPPER)) / 2;
            return Curve.lengthTo(x, y);
        }
    }

    /** The Hilbert curve through all points. */
    private static final class Curve {
        static int lengthTo(int startX, int startY) {
            int x = startX;
            int y = startY;
            int length = 0;
            for (int s = 128; s > 0; s /= 2) {
                boolean a = (x & s) != 0;
                boolean b = (y & s) != 0;
                length += s * s * quarter(a, b);
                if (!b) {
                    int oldX = x;
                    x = a ? LAST_COORDINATE - y : y;
                    y = a ? LAST_COORDINATE - oldX : oldX;
                }
            }
            return length;
        }

        private static int quarter(boolean a, boolean b) {
            if (a) {
                return b ? 2 : 3;
            }
            return b ? 1 : 0;
        }
    }

    /** The boxes, by their numbers and by their places in the order of their keys. */
    private static final class Stock {
        private final int[] areas = new int[MOST_NUMBERS];
        private final int[] keys = new int[MOST_NUMBERS];
        private final boolean[] there = new boolean[MOST_NUMBERS];
        private final int[] order = new int[MOST_BOXES];
        private int added;
        private int size;

        int size() {
            return size;
        }

        int added() {
            return added;
        }

        boolean hasRoom() {
            return added < MOST_NUMBERS && size < MOST_BOXES;
        }

        boolean has(int box) {
            return box >= 0 && box < there.length && there[box];
        }

        int areaOf(int box) {
            return box >= 0 && box < areas.length ? areas[box] : 0;
        }

        int keyFor(int box) {
            return box >= 0 && box < keys.length ? keys[box] : 0;
        }

        int numberAt(int place) {
            return place >= 0 && place < order.length && place < size ? order[place] : -1;
        }

        int areaAt(int place) {
            return areaOf(numberAt(place));
        }

        int placeOf(int box) {
            for (int place = 0; place < size; place++) {
                if (numberAt(place) == box) {
                    return place;
                }
            }
            return -1;
        }

        boolean haveMet(int box, int other) {
            return has(box) && has(other) && Area.meet(areaOf(box), areaOf(other));
        }

        /** Returns the number of the new box; the caller asks hasRoom() first. */
        int putIn(int area) {
            int box = added;
            if (box < 0 || box >= areas.length || box >= keys.length || box >= there.length) {
                return -1;
            }
            areas[box] = area;
            keys[box] = Area.middleKey(area);
            there[box] = true;
            added++;
            putInOrder(box);
            return box;
        }

        /** The new box has the highest number, so it comes behind all boxes of the same key. */
        private void putInOrder(int box) {
            int place = 0;
            while (place < size && keyFor(numberAt(place)) <= keyFor(box)) {
                place++;
            }
            size++;
            for (int at = size - 1; at > place; at--) {
                setOrder(at, numberAt(at - 1));
            }
            setOrder(place, box);
        }

        void takeOut(int box) {
            int place = placeOf(box);
            if (place < 0 || !has(box)) {
                return;
            }
            there[box] = false;
            for (int at = place; at < size - 1; at++) {
                setOrder(at, numberAt(at + 1));
            }
            size--;
        }

        private void setOrder(int place, int box) {
            if (place >= 0 && place < order.length) {
                order[place] = box;
            }
        }
    }

    /**
     * The nodes of all levels. On each level the entries stand from left to right as the boxes and
     * the nodes below do, so that it is enough to keep how many entries each node has, its load.
     * The bounds below are never met; what tests them only keeps the machine from throwing.
     */
    private static final class Tree {
        /** Only the last node of a level can have one entry, so 60 boxes never need more than 6. */
        private static final int MOST_LEVELS = 8;
        /** No node is without an entry, so that no level has more nodes than there are boxes. */
        private static final int MOST_NODES = MOST_BOXES;

        private final int[] loads = new int[MOST_LEVELS * MOST_NODES];
        private final int[] widths = new int[MOST_LEVELS];
        private int height;

        int height() {
            return height;
        }

        boolean hasLevel(int level) {
            return level >= 0 && level < height;
        }

        /** The number of nodes on a level, 0 if there is no such level. */
        int width(int level) {
            return level >= 0 && level < height && level < widths.length ? widths[level] : 0;
        }

        boolean hasNode(int level, int node) {
            return level >= 0 && level < height && level < widths.length && node >= 0 && node < widths[level];
        }

        /** The number of entries of a node, 0 if there is no such node. */
        int load(int level, int node) {
            int slot = level * MOST_NODES + node;
            return hasNode(level, node) && slot >= 0 && slot < loads.length ? loads[slot] : 0;
        }

        private void setLoad(int level, int node, int load) {
            int slot = level * MOST_NODES + node;
            if (hasNode(level, node) && slot >= 0 && slot < loads.length) {
                loads[slot] = load;
            }
        }

        private void setWidth(int level, int width) {
            if (level >= 0 && level < widths.length) {
                widths[level] = width;
            }
        }

        /** The number of entries that stand left of those of a node on its level. */
        private int entriesBefore(int level, int node) {
            int before = 0;
            for (int left = 0; left < node && left < width(level); left++) {
                before += load(level, left);
            }
            return before;
        }

        int boxesBefore(int level, int node) {
            int before = node;
            for (int below = level; below >= 0; below--) {
                before = entriesBefore(below, before);
            }
            return before;
        }

        /** The node on a level that has an entry, told by its place on the level; the last node if none has. */
        int holder(int level, int entry) {
            int end = 0;
            for (int node = 0; node < width(level); node++) {
                end += load(level, node);
                if (entry < end) {
                    return node;
                }
            }
            return width(level) - 1;
        }

        /** The node above, -1 for the root. */
        private int parent(int level, int node) {
            return hasLevel(level + 1) ? holder(level + 1, node) : -1;
        }

        /** The node to share with: the next one to the right, or else to the left, below the same parent, or -1. */
        private int partner(int level, int node, int parent) {
            int first = entriesBefore(level + 1, parent);
            int last = first + load(level + 1, parent) - 1;
            if (node < last) {
                return node + 1;
            }
            return node > first && node <= last ? node - 1 : -1;
        }

        /** Makes room for the box that is now at this place in the order. */
        void grow(int place) {
            if (height == 0) {
                addRoot(1);
                return;
            }
            // The first leaf whose last box comes behind the new one is the one that going down finds.
            int node = holder(0, place);
            setLoad(0, node, load(0, node) + 1);
            for (int level = 0; level < MOST_LEVELS && load(level, node) > MOST_ENTRIES; level++) {
                int parent = parent(level, node);
                if (relieve(level, node, parent)) {
                    gainEntry(level + 1, parent);
                }
                node = parent;
            }
        }

        private void gainEntry(int level, int node) {
            if (node < 0) {
                addRoot(2);
            } else {
                setLoad(level, node, load(level, node) + 1);
            }
        }

        private void addRoot(int load) {
            if (height < MOST_LEVELS) {
                height++;
                setWidth(height - 1, 1);
                setLoad(height - 1, 0, load);
            }
        }

        /** Mends a node of five entries; tells whether that has made a new node on its level. */
        private boolean relieve(int level, int node, int parent) {
            int partner = partner(level, node, parent);
            if (partner < 0) {
                setLoad(level, node, 3);
                insertNode(level, node + 1, 2);
                return true;
            }
            int left = Math.min(node, partner);
            if (load(level, partner) < MOST_ENTRIES) {
                halve(level, left);
                return false;
            }
            setLoad(level, left, 3);
            setLoad(level, left + 1, 3);
            insertNode(level, left + 2, 3);
            return true;
        }

        /** Divides the entries of a node and the next one anew. */
        private void halve(int level, int left) {
            int both = load(level, left) + load(level, left + 1);
            setLoad(level, left, (both + 1) / 2);
            setLoad(level, left + 1, both / 2);
        }

        /** Gives up the room of the box that is at this place in the order. */
        void shrink(int place) {
            int node = holder(0, place);
            setLoad(0, node, load(0, node) - 1);
            // A node that has lost no entry stays as it is, even if a packing has left it with one.
            boolean lost = true;
            for (int level = 0; lost && level < height - 1 && load(level, node) < 2; level++) {
                int parent = parent(level, node);
                lost = unite(level, node, parent);
                if (lost) {
                    setLoad(level + 1, parent, load(level + 1, parent) - 1);
                }
                node = parent;
            }
            lowerRoot();
        }

        /** Mends a node that is too small; tells whether that has taken out a node on its level. */
        private boolean unite(int level, int node, int parent) {
            int partner = partner(level, node, parent);
            if (partner < 0) {
                if (load(level, node) > 0) {
                    return false;
                }
                deleteNode(level, node);
                return true;
            }
            int left = Math.min(node, partner);
            int both = load(level, left) + load(level, left + 1);
            if (both > MOST_ENTRIES) {
                halve(level, left);
                return false;
            }
            setLoad(level, left, both);
            deleteNode(level, left + 1);
            return true;
        }

        private void lowerRoot() {
            for (int level = height - 1; level > 0 && load(level, 0) == 1; level--) {
                height = level;
            }
            if (load(height - 1, 0) == 0) {
                height = 0;
            }
        }

        private void insertNode(int level, int node, int load) {
            int width = width(level);
            if (width >= MOST_NODES) {
                return;
            }
            setWidth(level, width + 1);
            for (int at = width; at > node; at--) {
                setLoad(level, at, load(level, at - 1));
            }
            setLoad(level, node, load);
        }

        private void deleteNode(int level, int node) {
            int width = width(level);
            for (int at = node; at < width - 1; at++) {
                setLoad(level, at, load(level, at + 1));
            }
            setWidth(level, Math.max(0, width - 1));
        }

        /** Packs that many boxes. */
        void planAnew(int boxes) {
            height = 0;
            int below = boxes;
            for (int level = 0; level < MOST_LEVELS && below > 0; level++) {
                int width = (below + MOST_ENTRIES - 1) / MOST_ENTRIES;
                height = level + 1;
                setWidth(level, width);
                for (int node = 0; node < width; node++) {
                    setLoad(level, node, Math.min(MOST_ENTRIES, below - node * MOST_ENTRIES));
                }
                below = width > 1 ? width : 0;
            }
        }
    }
}
