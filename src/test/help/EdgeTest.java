import java.lang.reflect.InvocationTargetException;
import java.lang.reflect.Method;
import java.util.ArrayList;
import java.util.Arrays;
import java.util.Comparator;
import java.util.List;

/**
 * What the tests of boundary cases share. Each such test is a static method without parameters whose
 * name begins with "promise", the number of the promise and a low line; all of a class are run.
 */
abstract class EdgeTest {
    static final String ARGUMENT = "IllegalArgumentException";
    static final String INDEX = "IndexOutOfBoundsException";
    static final String STATE = "IllegalStateException";

    /** Numbers below 0, among them some that come to 0 or more when bytes or multiples of them wrap around. */
    static final int[] BELOW_0 = {
        -1, -2, -60, -100, -255, -256, -65536, -(1 << 24), -(1 << 30), Integer.MIN_VALUE, Integer.MIN_VALUE + 1,
    };
    /** Numbers that are too high for every argument, some of which wrap around in the same way. */
    static final int[] FAR_UP = {
        256, 257, 511, 512, 65535, 65536, 1 << 24, 1 << 28, 1 << 29, 1 << 30, Integer.MAX_VALUE - 1, Integer.MAX_VALUE,
    };

    private static final Checks CHECKS = new Checks();

    static void runTestsOf(Class<?> tests) {
        Method[] methods = tests.getDeclaredMethods();
        Arrays.sort(methods, Comparator.comparing(Method::getName));
        int run = 0;
        for (Method method : methods) {
            if (method.getName().matches("promise[0-9]+_.*")) {
                CHECKS.part(method.getName());
                runTest(method);
                run++;
            }
        }
        if (run == 0) {
            CHECKS.fault("there is no test in " + tests);
        }
        System.out.println(run + " tests of boundary cases");
        CHECKS.end();
    }

    private static void runTest(Method method) {
        try {
            method.setAccessible(true);
            method.invoke(null);
        } catch (InvocationTargetException e) {
            CHECKS.fault("ended with " + e.getCause());
        } catch (IllegalAccessException e) {
            CHECKS.fault("can't be run: " + e);
        }
    }

    static void due(String call, Object want, Checks.Call got) {
        CHECKS.due(call, want, got);
    }

    static void dueShape(String want, HilbertHutch hutch) {
        CHECKS.due("the shape", want, () -> Checks.shape(hutch));
    }

    /** The tree has this shape, its boxes come in their order, and leaves and covers are as follows from both. */
    static void dueTree(String want, Planted tree) {
        dueShape(want, tree.made());
        due("the order", tree.numbers(), () -> Checks.order(tree.made()));
        due("the leaves of all boxes", leavesOf(want), tree::leaves);
        due("the covers of all nodes", coversOf(want, tree), () -> Checks.covers(tree.made()));
    }

    /** The leaf of each box in the order, as it follows from a shape. */
    private static String leavesOf(String shape) {
        StringBuilder text = new StringBuilder();
        int[] loads = Planted.numbersIn(shape.split("/")[0]);
        for (int leaf = 0; leaf < loads.length; leaf++) {
            for (int i = 0; i < loads[leaf]; i++) {
                text.append(leaf).append(' ');
            }
        }
        return text.toString();
    }

    /** The covers as Checks.covers tells them, as they follow from a shape and from the points of the boxes. */
    private static String coversOf(String shape, Planted tree) {
        List<int[]> below = new ArrayList<>();
        for (int place = 0; place < tree.size(); place++) {
            int[] point = Checks.pointAt(tree.keyAt(place));
            below.add(new int[] {point[0], point[1], point[0], point[1]});
        }
        StringBuilder text = new StringBuilder();
        for (String level : shape.split("/")) {
            List<int[]> covers = new ArrayList<>();
            int first = 0;
            for (int load : Planted.numbersIn(level)) {
                covers.add(around(below.subList(first, first + load)));
                text.append(Arrays.toString(covers.get(covers.size() - 1)));
                first += load;
            }
            below = covers;
        }
        return text.toString();
    }

    private static int[] around(List<int[]> boxes) {
        int[] cover = boxes.get(0).clone();
        for (int[] box : boxes) {
            cover[0] = Math.min(cover[0], box[0]);
            cover[1] = Math.min(cover[1], box[1]);
            cover[2] = Math.max(cover[2], box[2]);
            cover[3] = Math.max(cover[3], box[3]);
        }
        return cover;
    }
}
