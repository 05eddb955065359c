import java.util.List;

/** Runs of 512 calls on a new object, each answer compared with that of the model; the runs are always the same. */
public final class ModelRuns {
    private static final int RUNS = 1500;
    private static final int CALLS = 512;
    private static final int[] FAR = {Integer.MIN_VALUE, -257, -1, 256, 257, 1 << 16, Integer.MAX_VALUE};

    private final Checks checks = new Checks();
    private long seed;
    private HilbertHutch hutch;
    private Model model;
    private int rising;
    private int calls;

    public static void main(String[] args) {
        new ModelRuns().runAll();
    }

    private void runAll() {
        for (int run = 0; run < RUNS && checks.allRight(); run++) {
            seed = 1000003L * run + 17;
            hutch = new HilbertHutch();
            model = new Model();
            rising = 0;
            calls = 0;
            checks.part("run " + run);
            run(run % 6, below(60) + 1);
        }
        checks.end();
    }

    /** Fills the tree up to a size, then goes up and down; what is asked in between depends on the habit. */
    private void run(int habit, int wanted) {
        boolean filling = true;
        while (calls < CALLS && checks.allRight()) {
            int choice = below(100);
            int size = model.boxes();
            filling = size == 0 || filling && size < wanted;
            if (choice < 2) {
                due("pack()", model::pack, hutch::pack);
            } else if (choice < 45) {
                if (filling || below(100) < 35) {
                    add(habit);
                } else {
                    remove(habit);
                }
                shape();
            } else {
                ask(choice);
            }
            if (below(60) == 0) {
                filling = !filling;
            }
        }
    }

    private void add(int habit) {
        int x1 = coordinate();
        int y1 = coordinate();
        int x2 = coordinate();
        int y2 = coordinate();
        if (habit == 1 || habit == 2) {
            // Rising or falling keys fill the tree from one end.
            rising += below(300);
            int[] point = Checks.pointAt((habit == 1 ? rising : 65535 - rising) & 65535);
            x1 = x2 = point[0];
            y1 = y2 = point[1];
        } else if (habit == 3) {
            // Few points, so that many keys are equal.
            x1 = x2 = below(3);
            y1 = y2 = below(3);
        } else if (habit == 4) {
            x1 = below(250);
            y1 = below(250);
            x2 = x1 + below(6);
            y2 = y1 + below(6);
        }
        int[] s = {x1, y1, x2, y2};
        if (habit > 0 || below(4) > 0) {
            s = sorted(s);
        }
        int[] sides = s;
        due("add" + List.of(s[0], s[1], s[2], s[3]), () -> model.add(sides[0], sides[1], sides[2], sides[3]),
                () -> hutch.add(sides[0], sides[1], sides[2], sides[3]));
    }

    private void remove(int habit) {
        int box = anyBox();
        if (model.boxes() > 0 && below(20) > 0) {
            int place = habit == 5 ? 0 : habit == 2 ? model.boxes() - 1 : below(model.boxes());
            box = model.boxAt(place);
        }
        int number = box;
        due("remove(" + number + ")", () -> model.remove(number), () -> hutch.remove(number));
    }

    /** Two or three questions of how the tree stands behind a change. */
    private void shape() {
        due("levels()", model::levels, hutch::levels);
        int level = below(3);
        due("nodes(" + level + ")", () -> model.nodes(level), () -> hutch.nodes(level));
        if (model.levels() > level) {
            int node = below(model.nodes(level));
            due("entries(" + level + ", " + node + ")", () -> model.entries(level, node),
                    () -> hutch.entries(level, node));
        }
    }

    private void ask(int choice) {
        int level = below(40) == 0 ? far() : below(5) - 1;
        int node = below(40) == 0 ? far() : below(22) - 1;
        int side = below(20) == 0 ? far() : below(4);
        int box = anyBox();
        int place = below(40) == 0 ? far() : below(model.boxes() + 2) - 1;
        int x = coordinate();
        int y = coordinate();
        switch (choice % 20) {
            case 0 -> due("boxes()", model::boxes, hutch::boxes);
            case 1 -> due("key(" + x + ", " + y + ")", () -> model.key(x, y), () -> hutch.key(x, y));
            case 2 -> due("keyOf(" + box + ")", () -> model.keyOf(box), () -> hutch.keyOf(box));
            case 3 -> due("sideOf(" + box + ", " + side + ")", () -> model.sideOf(box, side),
                    () -> hutch.sideOf(box, side));
            case 4 -> due("nodes(" + level + ")", () -> model.nodes(level), () -> hutch.nodes(level));
            case 5, 6 -> due("entries(" + level + ", " + node + ")", () -> model.entries(level, node),
                    () -> hutch.entries(level, node));
            case 7, 8 -> due("cover(" + level + ", " + node + ", " + side + ")",
                    () -> model.cover(level, node, side), () -> hutch.cover(level, node, side));
            case 9 -> due("leafOf(" + box + ")", () -> model.leafOf(box), () -> hutch.leafOf(box));
            case 10 -> due("boxAt(" + place + ")", () -> model.boxAt(place), () -> hutch.boxAt(place));
            case 11 -> due("tightness()", model::tightness, hutch::tightness);
            case 12 -> due("nearest(" + x + ", " + y + ", " + place + ")", () -> model.nearest(x, y, place),
                    () -> hutch.nearest(x, y, place));
            case 13 -> due("distance(" + x + ", " + y + ", " + box + ")", () -> model.distance(x, y, box),
                    () -> hutch.distance(x, y, box));
            case 14 -> due("pairs()", model::pairs, hutch::pairs);
            case 15 -> {
                int pair = below(40) == 0 ? far() : below(model.pairs() + 2) - 1;
                due("pair(" + pair + ")", () -> model.pair(pair), () -> hutch.pair(pair));
            }
            default -> askOfArea(choice, place);
        }
    }

    private void askOfArea(int choice, int place) {
        int[] s = {coordinate(), coordinate(), coordinate(), coordinate()};
        if (below(10) > 0) {
            s = sorted(s);
        }
        int[] sides = s;
        String text = s[0] + ", " + s[1] + ", " + s[2] + ", " + s[3];
        if (choice % 4 == 0) {
            due("count(" + text + ")", () -> model.count(sides[0], sides[1], sides[2], sides[3]),
                    () -> hutch.count(sides[0], sides[1], sides[2], sides[3]));
        } else if (choice % 4 == 1) {
            due("visits(" + text + ")", () -> model.visits(sides[0], sides[1], sides[2], sides[3]),
                    () -> hutch.visits(sides[0], sides[1], sides[2], sides[3]));
        } else {
            due("found(" + text + ", " + place + ")",
                    () -> model.found(sides[0], sides[1], sides[2], sides[3], place),
                    () -> hutch.found(sides[0], sides[1], sides[2], sides[3], place));
        }
    }

    private void due(String call, Checks.Call want, Checks.Call got) {
        if (calls < CALLS) {
            calls++;
            checks.due("call " + calls + ", " + call, Checks.answerOf(want), got);
        }
    }

    private static int[] sorted(int[] s) {
        return new int[] {Math.min(s[0], s[2]), Math.min(s[1], s[3]), Math.max(s[0], s[2]), Math.max(s[1], s[3])};
    }

    private int anyBox() {
        return below(40) == 0 ? far() : below(102) - 1;
    }

    private int coordinate() {
        return below(200) == 0 ? far() : below(256);
    }

    private int far() {
        return FAR[below(FAR.length)];
    }

    private int below(int bound) {
        seed = seed * 6364136223846793005L + 1442695040888963407L;
        return (int) ((seed >>> 33) % bound);
    }
}
