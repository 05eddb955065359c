import java.util.ArrayList;
import java.util.List;

/**
 * A tree of boxes of one point each, beside a record of its own of the boxes in their order. Questions
 * are put to new objects that have been through the same changes, as each serves 512 calls only.
 */
final class Planted {
    /** What an object or the model can be put through. */
    private interface Change {
        int on(HilbertHutch hutch, Model model);
    }

    private static final int MOST = 4;
    /** Wide enough for many boxes between two, and 60 boxes still have keys below 65536. */
    private static final int GAP = 1000;

    private final HilbertHutch hutch = new HilbertHutch();
    private final List<Change> changes = new ArrayList<>();
    private final List<Integer> keys = new ArrayList<>();
    private final List<Integer> numbers = new ArrayList<>();
    private int added;

    /**
     * A tree of at most three levels of this shape, as Checks.shape tells it. It is packed with full
     * nodes; then leaves are united and boxes taken out or put in so that no higher node is mended.
     */
    static Planted of(String shape) {
        String[] levels = shape.split("/");
        int[] loads = numbersIn(levels[0]);
        int[] groups = levels.length > 2 ? numbersIn(levels[1]) : new int[] {loads.length};
        int last = groups.length - 1;
        int leaves = MOST * last + groups[last];
        Planted tree = new Planted();
        int boxes = loads.length == 0 ? 0 : MOST * (leaves - 1) + loads[loads.length - 1];
        for (int i = 1; i <= boxes; i++) {
            tree.addKey(GAP * i);
        }
        tree.pack();
        for (int group = last - 1; group >= 0; group--) {
            for (int extra = groups[group]; extra < MOST; extra++) {
                tree.uniteWithNext(MOST * group);
            }
        }
        for (int leaf = 0; leaf < loads.length; leaf++) {
            tree.bringTo(leaf, loads[leaf]);
        }
        return tree;
    }

    static int[] numbersIn(String text) {
        if (text.isBlank()) {
            return new int[0];
        }
        String[] words = text.trim().split(" ");
        int[] numbers = new int[words.length];
        for (int i = 0; i < words.length; i++) {
            numbers[i] = Integer.parseInt(words[i]);
        }
        return numbers;
    }

    /** A new object that has been through all changes of this tree, and no other call. */
    HilbertHutch made() {
        HilbertHutch made = new HilbertHutch();
        for (Change change : changes) {
            change.on(made, null);
        }
        return made;
    }

    /** The model of the same tree. */
    Model model() {
        Model model = new Model();
        for (Change change : changes) {
            change.on(null, model);
        }
        return model;
    }

    Planted copy() {
        Planted copy = new Planted();
        for (Change change : changes) {
            copy.change(change);
        }
        copy.keys.addAll(keys);
        copy.numbers.addAll(numbers);
        copy.added = added;
        return copy;
    }

    private int change(Change change) {
        changes.add(change);
        return change.on(hutch, null);
    }

    int pack() {
        return change((made, model) -> made != null ? made.pack() : model.pack());
    }

    int addKey(int key) {
        int place = 0;
        while (place < keys.size() && keys.get(place) <= key) {
            place++;
        }
        keys.add(place, key);
        numbers.add(place, added);
        added++;
        int[] point = Checks.pointAt(key);
        return change((made, model) -> made != null ? made.add(point[0], point[1], point[0], point[1])
                : model.add(point[0], point[1], point[0], point[1]));
    }

    /** Adds a box that gets this place in the order. */
    void addAt(int place) {
        int low = place == 0 ? -1 : keys.get(place - 1);
        int high = place == keys.size() ? 65536 : keys.get(place);
        if (high - low < 2) {
            throw new AssertionError("there is no key between " + low + " and " + high);
        }
        addKey((low + high) / 2);
    }

    /** Adds a box to a leaf, between two of its boxes where there is most room, or in front of its only one. */
    void addTo(int leaf) {
        HilbertHutch now = made();
        int first = firstPlaceOf(leaf, now);
        int end = first + now.entries(0, leaf);
        int widest = first;
        for (int place = first + 1; place < end; place++) {
            if (widest == first || gapBefore(place) > gapBefore(widest)) {
                widest = place;
            }
        }
        addAt(widest);
    }

    private int gapBefore(int place) {
        return keys.get(place) - keys.get(place - 1);
    }

    int removeAt(int place) {
        keys.remove(place);
        int number = numbers.remove(place);
        return change((made, model) -> made != null ? made.remove(number) : model.remove(number));
    }

    /** Removes the second box of a leaf if it has more than two, or else its first one. */
    void removeFrom(int leaf) {
        HilbertHutch now = made();
        int first = firstPlaceOf(leaf, now);
        removeAt(now.entries(0, leaf) > 2 ? first + 1 : first);
    }

    /** Takes boxes out of a leaf or puts some in until it has 2 to 4; no other leaf changes. */
    void bringTo(int leaf, int load) {
        int now = made().entries(0, leaf);
        for (; now > load; now--) {
            removeFrom(leaf);
        }
        for (; now < load; now++) {
            addTo(leaf);
        }
    }

    private void uniteWithNext(int leaf) {
        bringTo(leaf, 2);
        bringTo(leaf + 1, 2);
        removeFrom(leaf);
    }

    private static int firstPlaceOf(int leaf, HilbertHutch now) {
        int place = 0;
        for (int left = 0; left < leaf; left++) {
            place += now.entries(0, left);
        }
        return place;
    }

    int size() {
        return numbers.size();
    }

    int keyAt(int place) {
        return keys.get(place);
    }

    /** The numbers of all boxes in their order, as they should be. */
    List<Integer> numbers() {
        return numbers;
    }

    /** The leaves of all boxes in their order, as the tree tells them. */
    String leaves() {
        HilbertHutch now = made();
        StringBuilder text = new StringBuilder();
        for (int number : numbers) {
            text.append(now.leafOf(number)).append(' ');
        }
        return text.toString();
    }
}
