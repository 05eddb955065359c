import java.util.ArrayList;
import java.util.List;

/** A call that throws an exception changes nothing: behind it, every answer is what it was before. */
public final class RefusedCalls extends EdgeTest {
    private interface Call {
        Object on(HilbertHutch hutch);
    }

    /** A tree, told by how it is made, and all that it answers when no call has been refused. */
    private static final class Tree {
        final String name;
        final Answers.Maker maker;
        final List<String> answers;

        Tree(String name, Answers.Maker maker) {
            this.name = name;
            this.maker = maker;
            answers = Answers.of(maker);
        }
    }

    private static final Tree NEW = new Tree("a new tree", HilbertHutch::new);
    private static final Tree ONE = new Tree("one box", () -> boxes(1));
    private static final Tree EMPTIED = new Tree("a tree whose boxes are removed", RefusedCalls::emptied);
    private static final Tree SOME = new Tree("some boxes", () -> Planted.of("4 2 3 4 1/4 1/2").made());
    private static final Tree FULL = new Tree("60 boxes", () -> boxes(60));
    private static final Tree USED_UP = new Tree("60 boxes, 100 added", RefusedCalls::usedUp);
    private static final Tree ENDED = new Tree("59 boxes, 100 added", RefusedCalls::ended);

    private static final Tree[] WITH_BOXES = {ONE, SOME, FULL, USED_UP, ENDED};
    private static final Tree[] WITHOUT_BOXES = {NEW, EMPTIED};
    private static final Tree[] ALL = {NEW, ONE, EMPTIED, SOME, FULL, USED_UP, ENDED};

    public static void main(String[] args) {
        runTestsOf(RefusedCalls.class);
    }

    private static HilbertHutch boxes(int boxes) {
        HilbertHutch hutch = new HilbertHutch();
        for (int i = 0; i < boxes; i++) {
            hutch.add(4 * i, i, 4 * i + 5, i + 3);
        }
        return hutch;
    }

    private static HilbertHutch emptied() {
        HilbertHutch hutch = boxes(6);
        for (int box = 0; box < 6; box++) {
            hutch.remove(box);
        }
        return hutch;
    }

    private static HilbertHutch usedUp() {
        HilbertHutch hutch = boxes(60);
        for (int box = 0; box < 40; box++) {
            hutch.remove(box);
            hutch.add(5 * box, 200, 5 * box + 3, 202);
        }
        return hutch;
    }

    private static HilbertHutch ended() {
        HilbertHutch hutch = usedUp();
        hutch.remove(99);
        return hutch;
    }

    /** The call is refused by each of these trees, which then answer as before. */
    private static void dueRefused(String exception, String name, Call call, Tree... trees) {
        for (Tree tree : trees) {
            due(name + " on " + tree.name, exception, () -> call.on(tree.maker.make()));
            List<String> behind = Answers.of(() -> {
                HilbertHutch hutch = tree.maker.make();
                Checks.answerOf(() -> call.on(hutch));
                return hutch;
            });
            due("the answers of " + tree.name + " changed by " + name, "[]", () -> changed(tree.answers, behind));
        }
    }

    private static List<String> changed(List<String> before, List<String> behind) {
        List<String> changed = new ArrayList<>();
        for (int i = 0; i < Math.max(before.size(), behind.size()) && changed.size() < 3; i++) {
            String old = i < before.size() ? before.get(i) : "nothing";
            String now = i < behind.size() ? behind.get(i) : "nothing";
            if (!old.equals(now)) {
                changed.add(now + " instead of " + old);
            }
        }
        return changed;
    }

    static void promise2_addOfWrongSides() {
        dueRefused(ARGUMENT, "add(-1, 0, 0, 0)", hutch -> hutch.add(-1, 0, 0, 0), ALL);
        dueRefused(ARGUMENT, "add(0, -1, 0, 0)", hutch -> hutch.add(0, -1, 0, 0), ALL);
        dueRefused(ARGUMENT, "add(0, 0, 256, 0)", hutch -> hutch.add(0, 0, 256, 0), ALL);
        dueRefused(ARGUMENT, "add(0, 0, 0, 256)", hutch -> hutch.add(0, 0, 0, 256), ALL);
        dueRefused(ARGUMENT, "add(1, 0, 0, 0)", hutch -> hutch.add(1, 0, 0, 0), ALL);
        dueRefused(ARGUMENT, "add(0, 1, 0, 0)", hutch -> hutch.add(0, 1, 0, 0), ALL);
    }

    static void promise2_addWith60Boxes() {
        dueRefused(STATE, "add(0, 0, 0, 0)", hutch -> hutch.add(0, 0, 0, 0), FULL, USED_UP);
        dueRefused(STATE, "add(0, 0, 255, 255)", hutch -> hutch.add(0, 0, 255, 255), FULL, USED_UP);
    }

    static void promise2_addWith100Added() {
        dueRefused(STATE, "add(0, 0, 0, 0)", hutch -> hutch.add(0, 0, 0, 0), ENDED);
        dueRefused(STATE, "add(255, 255, 255, 255)", hutch -> hutch.add(255, 255, 255, 255), ENDED);
    }

    static void promise3_removeOfNoBox() {
        dueRefused(INDEX, "remove(-1)", hutch -> hutch.remove(-1), ALL);
        dueRefused(INDEX, "remove(100)", hutch -> hutch.remove(100), ALL);
        dueRefused(INDEX, "remove(1 << 30)", hutch -> hutch.remove(1 << 30), ALL);
        dueRefused(INDEX, "remove(0)", hutch -> hutch.remove(0), WITHOUT_BOXES);
        dueRefused(INDEX, "remove(1)", hutch -> hutch.remove(1), NEW, ONE);
        dueRefused(INDEX, "remove(60)", hutch -> hutch.remove(60), FULL);
    }

    static void promise3_removeOfARemovedBox() {
        dueRefused(INDEX, "remove(0)", hutch -> hutch.remove(0), EMPTIED, USED_UP, ENDED);
        dueRefused(INDEX, "remove(39)", hutch -> hutch.remove(39), USED_UP, ENDED);
        dueRefused(INDEX, "remove(99)", hutch -> hutch.remove(99), ENDED);
    }

    static void promise6_key() {
        dueRefused(ARGUMENT, "key(-1, 0)", hutch -> hutch.key(-1, 0), ALL);
        dueRefused(ARGUMENT, "key(0, 256)", hutch -> hutch.key(0, 256), ALL);
    }

    static void promise7_keyOf() {
        dueRefused(INDEX, "keyOf(-1)", hutch -> hutch.keyOf(-1), ALL);
        dueRefused(INDEX, "keyOf(100)", hutch -> hutch.keyOf(100), ALL);
        dueRefused(INDEX, "keyOf(0)", hutch -> hutch.keyOf(0), EMPTIED, USED_UP);
    }

    static void promise8_sideOf() {
        dueRefused(ARGUMENT, "sideOf(0, 4)", hutch -> hutch.sideOf(0, 4), ALL);
        dueRefused(ARGUMENT, "sideOf(100, -1)", hutch -> hutch.sideOf(100, -1), ALL);
        dueRefused(INDEX, "sideOf(100, 0)", hutch -> hutch.sideOf(100, 0), ALL);
        dueRefused(INDEX, "sideOf(-1, 3)", hutch -> hutch.sideOf(-1, 3), ALL);
    }

    static void promise10_nodes() {
        dueRefused(INDEX, "nodes(-1)", hutch -> hutch.nodes(-1), ALL);
        dueRefused(INDEX, "nodes(levels())", hutch -> hutch.nodes(hutch.levels()), ALL);
    }

    static void promise11_entries() {
        dueRefused(INDEX, "entries(-1, 0)", hutch -> hutch.entries(-1, 0), ALL);
        dueRefused(INDEX, "entries(0, -1)", hutch -> hutch.entries(0, -1), ALL);
        dueRefused(INDEX, "entries(levels(), 0)", hutch -> hutch.entries(hutch.levels(), 0), ALL);
        dueRefused(INDEX, "entries(0, nodes(0))", hutch -> hutch.entries(0, hutch.nodes(0)), ALL);
    }

    static void promise12_cover() {
        dueRefused(ARGUMENT, "cover(0, 0, 4)", hutch -> hutch.cover(0, 0, 4), ALL);
        dueRefused(ARGUMENT, "cover(0, -1, -1)", hutch -> hutch.cover(0, -1, -1), ALL);
        dueRefused(INDEX, "cover(-1, 0, 0)", hutch -> hutch.cover(-1, 0, 0), ALL);
        dueRefused(INDEX, "cover(0, -1, 0)", hutch -> hutch.cover(0, -1, 0), ALL);
        dueRefused(INDEX, "cover(levels(), 0, 3)", hutch -> hutch.cover(hutch.levels(), 0, 3), ALL);
    }

    static void promise13_leafOf() {
        dueRefused(INDEX, "leafOf(-1)", hutch -> hutch.leafOf(-1), ALL);
        dueRefused(INDEX, "leafOf(100)", hutch -> hutch.leafOf(100), ALL);
        dueRefused(INDEX, "leafOf(0)", hutch -> hutch.leafOf(0), EMPTIED, USED_UP);
    }

    static void promise14_boxAt() {
        dueRefused(INDEX, "boxAt(-1)", hutch -> hutch.boxAt(-1), ALL);
        dueRefused(INDEX, "boxAt(boxes())", hutch -> hutch.boxAt(hutch.boxes()), ALL);
    }

    static void promise15_tightness() {
        dueRefused(STATE, "tightness()", hutch -> hutch.tightness(), WITHOUT_BOXES);
    }

    static void promise16_count() {
        dueRefused(ARGUMENT, "count(0, 0, 256, 0)", hutch -> hutch.count(0, 0, 256, 0), ALL);
        dueRefused(ARGUMENT, "count(0, 1, 0, 0)", hutch -> hutch.count(0, 1, 0, 0), ALL);
    }

    static void promise17_found() {
        dueRefused(ARGUMENT, "found(-1, 0, 0, 0, -1)", hutch -> hutch.found(-1, 0, 0, 0, -1), ALL);
        dueRefused(INDEX, "found(0, 0, 255, 255, -1)", hutch -> hutch.found(0, 0, 255, 255, -1), ALL);
        dueRefused(INDEX, "found(0, 0, 255, 255, boxes())",
                hutch -> hutch.found(0, 0, 255, 255, hutch.boxes()), ALL);
    }

    static void promise18_visits() {
        dueRefused(ARGUMENT, "visits(0, 0, 0, 256)", hutch -> hutch.visits(0, 0, 0, 256), ALL);
        dueRefused(ARGUMENT, "visits(1, 0, 0, 0)", hutch -> hutch.visits(1, 0, 0, 0), ALL);
    }

    static void promise19_nearest() {
        dueRefused(ARGUMENT, "nearest(256, 0, -1)", hutch -> hutch.nearest(256, 0, -1), ALL);
        dueRefused(INDEX, "nearest(9, 9, -1)", hutch -> hutch.nearest(9, 9, -1), ALL);
        dueRefused(INDEX, "nearest(9, 9, boxes())", hutch -> hutch.nearest(9, 9, hutch.boxes()), ALL);
    }

    static void promise20_distance() {
        dueRefused(ARGUMENT, "distance(0, -1, 100)", hutch -> hutch.distance(0, -1, 100), ALL);
        dueRefused(INDEX, "distance(0, 0, 100)", hutch -> hutch.distance(0, 0, 100), ALL);
        dueRefused(INDEX, "distance(0, 0, -1)", hutch -> hutch.distance(0, 0, -1), ALL);
    }

    static void promise22_pair() {
        dueRefused(INDEX, "pair(-1)", hutch -> hutch.pair(-1), ALL);
        dueRefused(INDEX, "pair(pairs())", hutch -> hutch.pair(hutch.pairs()), ALL);
        dueRefused(INDEX, "pair(0)", hutch -> hutch.pair(0), NEW, ONE, EMPTIED);
    }
}
