import java.util.ArrayList;
import java.util.Arrays;
import java.util.Comparator;
import java.util.List;

/**
 * The document told again with a tree of linked nodes, written without regard to speed or room and
 * not like the class, so that both are unlikely to be wrong in the same way.
 */
final class Model {
    static final class Box {
        int number;
        int[] sides;
        int key;
    }

    static final class Node {
        Node above;
        List<Node> nodes = new ArrayList<>();
        List<Box> boxes = new ArrayList<>();

        boolean isLeaf() {
            return nodes.isEmpty();
        }

        int size() {
            return nodes.size() + boxes.size();
        }

        List<Box> all() {
            List<Box> all = new ArrayList<>(boxes);
            for (Node node : nodes) {
                all.addAll(node.all());
            }
            return all;
        }

        Box last() {
            List<Box> all = all();
            return all.get(all.size() - 1);
        }

        int[] cover() {
            int[] cover = all().get(0).sides.clone();
            for (Box box : all()) {
                for (int side = 0; side < 4; side++) {
                    int other = box.sides[side];
                    cover[side] = side < 2 ? Math.min(cover[side], other) : Math.max(cover[side], other);
                }
            }
            return cover;
        }
    }

    private static final Comparator<Box> ORDER =
            Comparator.<Box>comparingInt(box -> box.key).thenComparingInt(box -> box.number);

    private Node root;
    private int added;

    // ---- boxes

    int add(int x1, int y1, int x2, int y2) {
        checkSides(x1, y1, x2, y2);
        if (boxes() == 60 || added == 100) {
            throw new IllegalStateException();
        }
        Box box = new Box();
        box.number = added++;
        box.sides = new int[] {x1, y1, x2, y2};
        box.key = key((x1 + x2) / 2, (y1 + y2) / 2);
        if (root == null) {
            root = new Node();
        }
        Node leaf = root;
        while (!leaf.isLeaf()) {
            Node next = leaf.nodes.get(leaf.nodes.size() - 1);
            for (int i = leaf.nodes.size() - 1; i >= 0; i--) {
                if (ORDER.compare(leaf.nodes.get(i).last(), box) > 0) {
                    next = leaf.nodes.get(i);
                }
            }
            leaf = next;
        }
        leaf.boxes.add(box);
        leaf.boxes.sort(ORDER);
        if (leaf.size() == 5) {
            overflow(leaf);
        }
        return box.number;
    }

    private void overflow(Node node) {
        Node partner = partner(node);
        List<Node> parts = new ArrayList<>();
        parts.add(node);
        Node fresh = new Node();
        if (partner == null) {
            if (node == root) {
                root = new Node();
                root.nodes.add(node);
                node.above = root;
            }
            parts.add(fresh);
            insertBehind(node, fresh);
            deal(parts, 3, 2);
        } else {
            boolean right = node.above.nodes.indexOf(partner) > node.above.nodes.indexOf(node);
            parts.add(right ? 1 : 0, partner);
            int both = node.size() + partner.size();
            if (partner.size() < 4) {
                deal(parts, both - both / 2, both / 2);
                return;
            }
            insertBehind(parts.get(1), fresh);
            parts.add(fresh);
            deal(parts, 3, 3, 3);
        }
        if (node.above.size() == 5) {
            overflow(node.above);
        }
    }

    private static void insertBehind(Node node, Node fresh) {
        fresh.above = node.above;
        node.above.nodes.add(node.above.nodes.indexOf(node) + 1, fresh);
    }

    private static Node partner(Node node) {
        if (node.above == null) {
            return null;
        }
        List<Node> row = node.above.nodes;
        int at = row.indexOf(node);
        if (at + 1 < row.size()) {
            return row.get(at + 1);
        }
        return at > 0 ? row.get(at - 1) : null;
    }

    /** Gives all entries of some nodes, from left to right, to the same nodes in these amounts. */
    private static void deal(List<Node> nodes, int... amounts) {
        List<Node> below = new ArrayList<>();
        List<Box> boxes = new ArrayList<>();
        for (Node node : nodes) {
            below.addAll(node.nodes);
            boxes.addAll(node.boxes);
            node.nodes.clear();
            node.boxes.clear();
        }
        for (int i = 0; i < amounts.length; i++) {
            for (int k = 0; k < amounts[i]; k++) {
                if (!boxes.isEmpty()) {
                    nodes.get(i).boxes.add(boxes.remove(0));
                } else {
                    Node moved = below.remove(0);
                    moved.above = nodes.get(i);
                    nodes.get(i).nodes.add(moved);
                }
            }
        }
    }

    int remove(int number) {
        Box box = boxNumbered(number);
        Node leaf = leaves().get(leafOf(number));
        leaf.boxes.remove(box);
        lost(leaf);
        while (!root.isLeaf() && root.size() == 1) {
            root = root.nodes.get(0);
            root.above = null;
        }
        if (root.size() == 0) {
            root = null;
        }
        return boxes();
    }

    private void lost(Node node) {
        if (node == root || node.size() >= 2) {
            return;
        }
        Node partner = partner(node);
        Node above = node.above;
        if (partner == null) {
            if (node.size() == 0) {
                above.nodes.remove(node);
                lost(above);
            }
            return;
        }
        boolean right = above.nodes.indexOf(partner) > above.nodes.indexOf(node);
        List<Node> parts = right ? List.of(node, partner) : List.of(partner, node);
        int both = node.size() + partner.size();
        if (both > 4) {
            deal(parts, both - both / 2, both / 2);
            return;
        }
        deal(parts, both);
        above.nodes.remove(parts.get(1));
        lost(above);
    }

    int pack() {
        List<Box> order = order();
        List<Node> row = new ArrayList<>();
        for (int i = 0; i < order.size(); i += 4) {
            Node leaf = new Node();
            leaf.boxes.addAll(order.subList(i, Math.min(i + 4, order.size())));
            row.add(leaf);
        }
        int leaves = row.size();
        while (row.size() > 1) {
            List<Node> next = new ArrayList<>();
            for (int i = 0; i < row.size(); i += 4) {
                Node node = new Node();
                node.nodes.addAll(row.subList(i, Math.min(i + 4, row.size())));
                for (Node below : node.nodes) {
                    below.above = node;
                }
                next.add(node);
            }
            row = next;
        }
        root = row.isEmpty() ? null : row.get(0);
        return leaves;
    }

    int boxes() {
        return order().size();
    }

    int key(int startX, int startY) {
        checkPoint(startX, startY);
        int x = startX;
        int y = startY;
        int key = 0;
        for (int digit = 7; digit >= 0; digit--) {
            int a = x >> digit & 1;
            int b = y >> digit & 1;
            int[][] q = {{0, 1}, {3, 2}};
            key += (1 << digit) * (1 << digit) * q[a][b];
            if (b == 0) {
                if (a == 1) {
                    x = 255 - x;
                    y = 255 - y;
                }
                int old = x;
                x = y;
                y = old;
            }
        }
        return key;
    }

    int keyOf(int number) {
        return boxNumbered(number).key;
    }

    int sideOf(int number, int side) {
        checkSide(side);
        return boxNumbered(number).sides[side];
    }

    // ---- the tree

    int levels() {
        return rows().size();
    }

    int nodes(int level) {
        return rows().get(existing(level, rows().size())).size();
    }

    int entries(int level, int node) {
        return nodeAt(level, node).size();
    }

    int cover(int level, int node, int side) {
        checkSide(side);
        return nodeAt(level, node).cover()[side];
    }

    int leafOf(int number) {
        Box box = boxNumbered(number);
        for (int leaf = 0; leaf < leaves().size(); leaf++) {
            if (leaves().get(leaf).boxes.contains(box)) {
                return leaf;
            }
        }
        throw new AssertionError("a box is in no leaf");
    }

    int boxAt(int place) {
        return order().get(existing(place, boxes())).number;
    }

    float tightness() {
        if (root == null) {
            throw new IllegalStateException();
        }
        long filled = 0;
        for (Box box : order()) {
            filled += points(box.sides);
        }
        long covered = 0;
        for (Node leaf : leaves()) {
            covered += points(leaf.cover());
        }
        return (float) filled / (float) covered;
    }

    // ---- boxes that meet a box

    int count(int x1, int y1, int x2, int y2) {
        return meeting(x1, y1, x2, y2).size();
    }

    int found(int x1, int y1, int x2, int y2, int place) {
        List<Box> meeting = meeting(x1, y1, x2, y2);
        return meeting.get(existing(place, meeting.size())).number;
    }

    int visits(int x1, int y1, int x2, int y2) {
        checkSides(x1, y1, x2, y2);
        int visits = 0;
        for (List<Node> row : rows()) {
            for (Node node : row) {
                visits += meet(node.cover(), new int[] {x1, y1, x2, y2}) ? 1 : 0;
            }
        }
        return visits;
    }

    // ---- nearest boxes

    int nearest(int x, int y, int place) {
        checkPoint(x, y);
        List<Box> boxes = order();
        boxes.sort(Comparator.<Box>comparingInt(box -> distance(x, y, box.number))
                .thenComparingInt(box -> box.number));
        return boxes.get(existing(place, boxes.size())).number;
    }

    int distance(int x, int y, int number) {
        checkPoint(x, y);
        int[] sides = boxNumbered(number).sides;
        int dx = x < sides[0] ? sides[0] - x : x > sides[2] ? x - sides[2] : 0;
        int dy = y < sides[1] ? sides[1] - y : y > sides[3] ? y - sides[3] : 0;
        return dx * dx + dy * dy;
    }

    // ---- pairs

    int pairs() {
        return pairList().size();
    }

    int pair(int place) {
        return pairList().get(existing(place, pairs()));
    }

    private List<Integer> pairList() {
        List<Integer> pairs = new ArrayList<>();
        for (Box low : order()) {
            for (Box high : order()) {
                if (low.number < high.number && meet(low.sides, high.sides)) {
                    pairs.add(100 * low.number + high.number);
                }
            }
        }
        pairs.sort(Comparator.naturalOrder());
        return pairs;
    }

    // ---- the whole tree as texts, as Checks has them of an object

    String shape() {
        StringBuilder text = new StringBuilder();
        for (List<Node> row : rows()) {
            text.append(text.length() == 0 ? "" : "/");
            for (Node node : row) {
                text.append(node == row.get(0) ? "" : " ").append(node.size());
            }
        }
        return text.toString();
    }

    String covers() {
        StringBuilder text = new StringBuilder();
        for (List<Node> row : rows()) {
            for (Node node : row) {
                text.append(Arrays.toString(node.cover()));
            }
        }
        return text.toString();
    }

    // ---- what the calls share

    private List<Box> order() {
        return root == null ? new ArrayList<>() : root.all();
    }

    /** The nodes of each level, the leaves first. */
    private List<List<Node>> rows() {
        List<List<Node>> rows = new ArrayList<>();
        List<Node> row = root == null ? List.of() : List.of(root);
        while (!row.isEmpty()) {
            rows.add(0, row);
            List<Node> next = new ArrayList<>();
            for (Node node : row) {
                next.addAll(node.nodes);
            }
            row = next;
        }
        return rows;
    }

    private List<Node> leaves() {
        return rows().get(0);
    }

    private Node nodeAt(int level, int node) {
        List<Node> row = rows().get(existing(level, rows().size()));
        return row.get(existing(node, row.size()));
    }

    private Box boxNumbered(int number) {
        for (Box box : order()) {
            if (box.number == number) {
                return box;
            }
        }
        throw new IndexOutOfBoundsException();
    }

    private List<Box> meeting(int x1, int y1, int x2, int y2) {
        checkSides(x1, y1, x2, y2);
        List<Box> meeting = new ArrayList<>();
        for (Box box : order()) {
            if (meet(box.sides, new int[] {x1, y1, x2, y2})) {
                meeting.add(box);
            }
        }
        return meeting;
    }

    private static boolean meet(int[] one, int[] other) {
        boolean apart = one[2] < other[0] || other[2] < one[0] || one[3] < other[1] || other[3] < one[1];
        return !apart;
    }

    private static long points(int[] sides) {
        return (long) (sides[2] - sides[0] + 1) * (sides[3] - sides[1] + 1);
    }

    private static int existing(int index, int size) {
        if (index < 0 || index >= size) {
            throw new IndexOutOfBoundsException();
        }
        return index;
    }

    private static void checkSide(int side) {
        if (side < 0 || side > 3) {
            throw new IllegalArgumentException();
        }
    }

    private static void checkPoint(int x, int y) {
        if (x < 0 || x > 255 || y < 0 || y > 255) {
            throw new IllegalArgumentException();
        }
    }

    private static void checkSides(int x1, int y1, int x2, int y2) {
        checkPoint(x1, y1);
        checkPoint(x2, y2);
        if (x2 < x1 || y2 < y1) {
            throw new IllegalArgumentException();
        }
    }
}
