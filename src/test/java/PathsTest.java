import java.util.ArrayList;
import java.util.List;

/** Terms: paths. */
public final class PathsTest {
    public static void main(String[] args) {
        theValueItself();
        fieldsOfTheValue();
        everyPath();
        nothingWithoutThatField();
        nothingBelowNothing();
        otherNumbers();
        Expect.end();
    }

    /** "0 is the value itself" */
    private static void theValueItself() {
        LazyTester x = Samples.trees();
        x.test(0, 0);
        Expect.answers("the leaf has constructor 0", x.check(0, 4), 1);
        x.test(0, 1);
        Expect.answers("the leaf has not constructor 1", x.check(0, 4), 0);
    }

    /** "4 * p + k + 1, for a path p and k 0 .. 2, is field k of what is at path p" */
    private static void fieldsOfTheValue() {
        int[] firstOther = {9, 3, 1};
        for (int k = 0; k <= 2; k++) {
            LazyTester x = new LazyTester();
            for (int c = 0; c < 3; c++) {
                x.constructor(0, 0, -1, -1, -1);
            }
            x.constructor(1, 3, 0, 0, 0);
            x.test(k + 1, 0);
            Expect.answers("the first triple whose field " + k + " is another", x.check(1, 1), firstOther[k]);
        }
    }

    /**
     * The same for p of 0 .. 3 steps: TEST p asks for what is on the way to p and for nothing else, so
     * that what is shown tells where p is.
     */
    private static void everyPath() {
        LazyTester x = Samples.widest();
        int paths = 0;
        for (int p = 0; p < 256; p++) {
            List<Integer> way = wayTo(p);
            if (way != null) {
                paths++;
                x.discard();
                x.test(p, 1);
                Expect.refuted("refine", x, 0, 4);
                List<Integer> due = new ArrayList<>();
                known(way, 0, true, due);
                Expect.shows("on the way to " + p, x, due.stream().mapToInt(i -> i).toArray());
                Expect.counts("on the way to " + p, x, way.size() + 2, 0);
            }
        }
        Expect.answers("1 + 3 + 9 + 27 + 81", paths, 121);
    }

    /** The fields on the way to a path, found by trying all; null if the number is no path. */
    private static List<Integer> wayTo(int path) {
        if (path == 0) {
            return new ArrayList<>();
        }
        for (int p = 0; p < path; p++) {
            for (int k = 0; k <= 2; k++) {
                List<Integer> way = 4 * p + k + 1 == path ? wayTo(p) : null;
                if (way != null) {
                    way.add(k);
                    return way;
                }
            }
        }
        return null;
    }

    /** What is shown of a widest value of which only what is on the way is known. */
    private static void known(List<Integer> way, int height, boolean onTheWay, List<Integer> out) {
        out.add(onTheWay ? 0 : LazyTester.HOLE);
        for (int k = 0; onTheWay && height < way.size() && k <= 2; k++) {
            known(way, height + 1, way.get(height) == k, out);
        }
        if (onTheWay && height == way.size()) {
            for (int k = 0; height < 4 && k <= 2; k++) {
                out.add(LazyTester.HOLE);
            }
        }
    }

    /** "if there is something that has a field k; otherwise there is NOTHING" */
    private static void nothingWithoutThatField() {
        LazyTester x = new LazyTester();
        x.constructor(0, 0, -1, -1, -1);
        x.constructor(1, 0, -1, -1, -1);
        x.constructor(2, 1, 0, -1, -1);
        x.constructor(3, 2, 0, 0, -1);
        x.constructor(4, 3, 0, 0, 0);
        for (int fields = 0; fields <= 3; fields++) {
            for (int k = 0; k <= 2; k++) {
                x.discard();
                x.test(k + 1, 0);
                int due = k < fields ? LazyTester.NONE : 0;
                Expect.answers("field " + k + " of " + fields, x.check(fields + 1, 1), due);
            }
        }
    }

    /** "if there is something that has a field k; otherwise there is NOTHING": so with nothing at p. */
    private static void nothingBelowNothing() {
        LazyTester x = Samples.trees();
        for (int p : new int[] {1, 5, 21, 85, 3, 15, 63, 255}) {
            for (int c = 0; c <= 3; c++) {
                x.discard();
                x.test(p, c);
                Expect.answers("at " + p + " of a leaf", x.check(0, 0), 0);
            }
        }
    }

    /** "(Other numbers are no paths: 4 is none.)", and "no path of at most 4 steps". */
    private static void otherNumbers() {
        int paths = 0;
        for (int n = -300; n <= 5000; n++) {
            paths += isTaken(n, n >= 0 && n < 256 && wayTo(n) != null) ? 1 : 0;
        }
        Expect.answers("paths", paths, 121);
        int[] far = {Integer.MIN_VALUE, Integer.MIN_VALUE + 1, -(1 << 30), 1 << 16, (1 << 16) + 1, 1 << 30,
            (1 << 30) + 1, Integer.MAX_VALUE - 1, Integer.MAX_VALUE, 0x55555555};
        for (int n : far) {
            isTaken(n, false);
        }
    }

    private static boolean isTaken(int n, boolean path) {
        LazyTester x = new LazyTester();
        String due = path ? "answered " : "threw IllegalArgumentException";
        Expect.texts("test(" + n + ", 0)", Expect.outcome(() -> x.test(n, 0)), path ? due + 1 : due);
        Expect.texts("same(" + n + ", 0)", Expect.outcome(() -> x.same(n, 0)), path ? due + 2 : due);
        Expect.texts("same(0, " + n + ")", Expect.outcome(() -> x.same(0, n)), path ? due + 3 : due);
        return path;
    }
}
