import java.util.ArrayList;
import java.util.List;

/**
 * All that a tree answers, and what it answers behind the next change. The questions are put to
 * several new objects that have all been through the same calls, as each of them serves 512 only.
 */
final class Answers {
    interface Maker {
        HilbertHutch make();
    }

    private static final int[][] AREAS = {
        {0, 0, 255, 255}, {0, 0, 0, 0}, {0, 0, 20, 20}, {30, 0, 200, 40}, {255, 255, 255, 255},
    };
    private static final int[][] POINTS = {{0, 0}, {100, 100}, {255, 0}};
    private static final int PAIRS_AT_A_TIME = 200;

    private final Maker maker;
    private final List<String> answers = new ArrayList<>();

    private Answers(Maker maker) {
        this.maker = maker;
    }

    static List<String> of(Maker maker) {
        Answers all = new Answers(maker);
        all.askOfTheTree();
        all.askOfCovers();
        all.askOfPlaces();
        all.askOfNumbers();
        all.askOfSides();
        all.askOfAreas();
        all.askOfPoints();
        all.askOfPairs();
        all.askBehindTheNextChange();
        return all.answers;
    }

    private void put(String call, Checks.Call asked) {
        answers.add(call + " = " + Checks.answerOf(asked));
    }

    private void askOfTheTree() {
        HilbertHutch hutch = maker.make();
        put("boxes()", hutch::boxes);
        put("levels()", hutch::levels);
        put("tightness()", hutch::tightness);
        put("the shape", () -> Checks.shape(hutch));
        for (int level = -1; level < 6; level++) {
            int asked = level;
            put("nodes(" + asked + ")", () -> hutch.nodes(asked));
            put("entries(" + asked + ", -1)", () -> hutch.entries(asked, -1));
            put("entries(" + asked + ", 0)", () -> hutch.entries(asked, 0));
            put("entries(" + asked + ", 60)", () -> hutch.entries(asked, 60));
        }
    }

    private void askOfCovers() {
        HilbertHutch hutch = maker.make();
        for (int level = 0; level < hutch.levels(); level++) {
            for (int node = 0; node < hutch.nodes(level); node++) {
                for (int side = 0; side < 4; side++) {
                    int[] asked = {level, node, side};
                    put("cover(" + level + ", " + node + ", " + side + ")",
                            () -> hutch.cover(asked[0], asked[1], asked[2]));
                }
            }
        }
    }

    private void askOfPlaces() {
        HilbertHutch hutch = maker.make();
        for (int place = -1; place <= 60; place++) {
            int asked = place;
            put("boxAt(" + asked + ")", () -> hutch.boxAt(asked));
            put("found of all, " + asked, () -> hutch.found(0, 0, 255, 255, asked));
        }
    }

    private void askOfNumbers() {
        HilbertHutch hutch = maker.make();
        for (int box = -1; box <= 100; box++) {
            int asked = box;
            put("keyOf(" + asked + ")", () -> hutch.keyOf(asked));
            put("leafOf(" + asked + ")", () -> hutch.leafOf(asked));
            put("distance(9, 8, " + asked + ")", () -> hutch.distance(9, 8, asked));
        }
    }

    private void askOfSides() {
        for (int side = 0; side < 4; side++) {
            HilbertHutch hutch = maker.make();
            int asked = side;
            for (int box = -1; box <= 100; box++) {
                int number = box;
                put("sideOf(" + number + ", " + asked + ")", () -> hutch.sideOf(number, asked));
            }
        }
    }

    private void askOfAreas() {
        HilbertHutch hutch = maker.make();
        for (int[] s : AREAS) {
            String area = s[0] + ", " + s[1] + ", " + s[2] + ", " + s[3];
            put("count(" + area + ")", () -> hutch.count(s[0], s[1], s[2], s[3]));
            put("visits(" + area + ")", () -> hutch.visits(s[0], s[1], s[2], s[3]));
            put("found(" + area + ", 0)", () -> hutch.found(s[0], s[1], s[2], s[3], 0));
        }
    }

    private void askOfPoints() {
        for (int[] point : POINTS) {
            HilbertHutch hutch = maker.make();
            put("key(" + point[0] + ", " + point[1] + ")", () -> hutch.key(point[0], point[1]));
            for (int place = -1; place <= 60; place++) {
                int asked = place;
                put("nearest(" + point[0] + ", " + point[1] + ", " + asked + ")",
                        () -> hutch.nearest(point[0], point[1], asked));
            }
        }
    }

    private void askOfPairs() {
        int pairs = maker.make().pairs();
        put("pairs()", () -> pairs);
        for (int first = -1; first <= pairs; first += PAIRS_AT_A_TIME) {
            HilbertHutch hutch = maker.make();
            for (int place = first; place <= pairs && place < first + PAIRS_AT_A_TIME; place++) {
                int asked = place;
                put("pair(" + asked + ")", () -> hutch.pair(asked));
            }
        }
    }

    private void askBehindTheNextChange() {
        HilbertHutch added = maker.make();
        put("add()", () -> added.add(3, 4, 5, 6));
        put("the shape behind add()", () -> Checks.shape(added));
        put("the order behind add()", () -> Checks.order(added));
        HilbertHutch removed = maker.make();
        put("remove(boxAt(0))", () -> removed.remove(removed.boxAt(0)));
        put("the shape behind remove()", () -> Checks.shape(removed));
        put("the order behind remove()", () -> Checks.order(removed));
        put("add() behind remove()", () -> removed.add(3, 4, 5, 6));
        HilbertHutch packed = maker.make();
        put("pack()", packed::pack);
        put("the shape behind pack()", () -> Checks.shape(packed));
        put("the order behind pack()", () -> Checks.order(packed));
    }
}
