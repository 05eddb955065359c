import java.util.ArrayList;
import java.util.Arrays;
import java.util.List;

/** What the tests share: comparing answers, points by their keys, and the shape of a tree as a text. */
final class Checks {
    interface Call {
        Object answer();
    }

    private int wrong;
    private String part = "";

    void part(String name) {
        part = name;
    }

    /** What a call answers, or the plain name of the exception that it throws. */
    static String answerOf(Call call) {
        try {
            return String.valueOf(call.answer());
        } catch (RuntimeException e) {
            return e.getClass().getSimpleName();
        }
    }

    void due(String call, Object want, Call got) {
        String answer = answerOf(got);
        if (!answer.equals(String.valueOf(want))) {
            wrong++;
            System.out.println(part + ": " + call + " answered " + answer + ", due is " + want);
        }
    }

    void fault(String text) {
        wrong++;
        System.out.println(part + ": " + text);
    }

    boolean allRight() {
        return wrong == 0;
    }

    void end() {
        if (wrong > 0) {
            System.out.println(wrong + " answers are not as due");
            System.exit(1);
        }
        System.out.println("all answers are as due");
    }

    /** The point with a key: the curve is walked the other way round, from the smallest square to the largest. */
    static int[] pointAt(int key) {
        int x = 0;
        int y = 0;
        int rest = key;
        for (int s = 1; s < 256; s *= 2) {
            int a = (rest / 2) & 1;
            int b = (rest ^ a) & 1;
            if (b == 0) {
                int oldX = x;
                x = a == 1 ? s - 1 - y : y;
                y = a == 1 ? s - 1 - oldX : oldX;
            }
            x += s * a;
            y += s * b;
            rest /= 4;
        }
        return new int[] {x, y};
    }

    /** Adds boxes of one point each, with these keys. */
    static void addKeys(HilbertHutch hutch, int... keys) {
        for (int key : keys) {
            int[] point = pointAt(key);
            hutch.add(point[0], point[1], point[0], point[1]);
        }
    }

    /** A new object with that many boxes of one point each, whose keys are 100, 200, 300 and so on. */
    static HilbertHutch withBoxes(int boxes) {
        HilbertHutch hutch = new HilbertHutch();
        for (int i = 1; i <= boxes; i++) {
            addKeys(hutch, 100 * i);
        }
        return hutch;
    }

    static HilbertHutch packedWithBoxes(int boxes) {
        HilbertHutch hutch = withBoxes(boxes);
        hutch.pack();
        return hutch;
    }

    /** The numbers of entries from left to right, the leaves first and the root last, as in "3 2/2". */
    static String shape(HilbertHutch hutch) {
        StringBuilder text = new StringBuilder();
        for (int level = 0; level < hutch.levels(); level++) {
            text.append(level == 0 ? "" : "/");
            for (int node = 0; node < hutch.nodes(level); node++) {
                text.append(node == 0 ? "" : " ").append(hutch.entries(level, node));
            }
        }
        return text.toString();
    }

    /** The covers from left to right, the leaves first and the root last. */
    static String covers(HilbertHutch hutch) {
        StringBuilder text = new StringBuilder();
        for (int level = 0; level < hutch.levels(); level++) {
            for (int node = 0; node < hutch.nodes(level); node++) {
                int[] sides = new int[4];
                for (int side = 0; side < 4; side++) {
                    sides[side] = hutch.cover(level, node, side);
                }
                text.append(Arrays.toString(sides));
            }
        }
        return text.toString();
    }

    static List<Integer> order(HilbertHutch hutch) {
        List<Integer> order = new ArrayList<>();
        for (int place = 0; place < hutch.boxes(); place++) {
            order.add(hutch.boxAt(place));
        }
        return order;
    }
}
