import java.util.ArrayList;
import java.util.List;

/**
 * Promises 2 to 4 at every boundary between neighbours: to trees of each shape with few or many
 * entries in the nodes, boxes are added and removed in each leaf, beside the model.
 */
public final class ShapeSweeps {
    private static final int[] LOADS = {2, 3, 4};
    private static final int[] LAST_LOADS = {1, 2, 3, 4};

    private final Checks checks = new Checks();
    private int trees;

    public static void main(String[] args) {
        new ShapeSweeps().sweepAll();
    }

    private void sweepAll() {
        for (int nodes = 2; nodes <= 4; nodes++) {
            for (String leaves : rows(nodes)) {
                sweepLeaves(Planted.of(leaves + "/" + nodes));
            }
        }
        for (int nodes = 2; nodes <= 4; nodes++) {
            for (String row : rows(nodes)) {
                sweepNodes(row, nodes);
            }
        }
        System.out.println(trees + " trees compared");
        checks.end();
    }

    /** Every row of so many numbers of entries, of which the last may be 1, as packing may leave it. */
    private static List<String> rows(int length) {
        List<String> rows = new ArrayList<>();
        rows.add("");
        for (int i = 0; i < length; i++) {
            List<String> longer = new ArrayList<>();
            for (String row : rows) {
                for (int load : i == length - 1 ? LAST_LOADS : LOADS) {
                    longer.add(row.isEmpty() ? "" + load : row + " " + load);
                }
            }
            rows = longer;
        }
        return rows;
    }

    /** One box added or removed at every place of two levels, and behind that another one at every place. */
    private void sweepLeaves(Planted start) {
        compare(start);
        for (int place = 0; place <= start.size(); place++) {
            for (Planted next : changedAt(start, place)) {
                compare(next);
                for (int second = Math.max(0, place - 1); second <= place + 1; second++) {
                    for (Planted last : changedAt(next, second)) {
                        compare(last);
                    }
                }
            }
        }
    }

    private static List<Planted> changedAt(Planted tree, int place) {
        List<Planted> changed = new ArrayList<>();
        if (place <= tree.size() && tree.size() < 60) {
            Planted added = tree.copy();
            added.addAt(place);
            changed.add(added);
        }
        if (place < tree.size()) {
            Planted removed = tree.copy();
            removed.removeAt(place);
            changed.add(removed);
        }
        return changed;
    }

    /** One box added or removed in each leaf of three levels, whose leaves all have few boxes or many. */
    private void sweepNodes(String row, int nodes) {
        int leaves = 0;
        int[] groups = Planted.numbersIn(row);
        for (int group : groups) {
            leaves += group;
        }
        // Packing makes full nodes of 4 leaves first, and 60 boxes are no more than 15 leaves of 4.
        if (4 * (nodes - 1) + groups[nodes - 1] > 15) {
            return;
        }
        for (int load : LOADS) {
            Planted start = Planted.of((load + " ").repeat(leaves) + "/" + row + "/" + nodes);
            compare(start);
            for (int leaf = 0; leaf < leaves; leaf++) {
                if (start.size() < 60) {
                    Planted added = start.copy();
                    added.addTo(leaf);
                    compare(added);
                }
                Planted removed = start.copy();
                removed.removeFrom(leaf);
                compare(removed);
            }
        }
    }

    private void compare(Planted tree) {
        trees++;
        checks.part("tree " + trees);
        Model model = tree.model();
        checks.due("the shape", model.shape(), () -> Checks.shape(tree.made()));
        checks.due("the order", tree.numbers(), () -> Checks.order(tree.made()));
        checks.due("the covers", model.covers(), () -> Checks.covers(tree.made()));
    }
}
