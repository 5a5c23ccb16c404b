/** Terms: the two orders of values. */
public final class OrderTest {
    public static void main(String[] args) {
        depthByConstructors();
        depthByFieldsInTurn();
        depthFieldsByOneDepthLess();
        depthNumbers();
        sizeByConstructors();
        sizeByTheFieldsSizes();
        sizeByTheFieldsInTheirOrder();
        Expect.end();
    }

    private static void ofDepth(LazyTester x, int type, int depth, int[][] due) {
        Expect.answers("how many", x.count(type, depth), due.length);
        for (int n = 0; n < due.length; n++) {
            Expect.answers("number " + n, x.show(type, depth, n), due[n].length);
            Expect.shows("number " + n, x, due[n]);
        }
        Expect.badState("another one", () -> x.show(type, depth, due.length));
    }

    private static void ofSize(LazyTester x, int type, int size, int[][] due) {
        Expect.answers("how many", x.sized(type, size), due.length);
        for (int n = 0; n < due.length; n++) {
            Expect.answers("number " + n, x.showSized(type, size, n), size);
            Expect.shows("number " + n, x, due[n]);
        }
        Expect.badState("another one", () -> x.showSized(type, size, due.length));
    }

    /** "ORDER of the values of a type of depth d or less: by their constructors", whatever their depth is. */
    private static void depthByConstructors() {
        LazyTester x = new LazyTester();
        x.constructor(0, 2, 0, 1, -1);
        x.constructor(0, 0, -1, -1, -1);
        x.constructor(0, 1, 1, -1, -1);
        x.constructor(1, 0, -1, -1, -1);
        ofDepth(x, 0, 0, new int[][] {{1}});
        ofDepth(x, 0, 1, new int[][] {{0, 1, 0}, {1}, {2, 0}});
        ofDepth(x, 0, 2, new int[][] {{0, 0, 1, 0, 0}, {0, 1, 0}, {0, 2, 0, 0}, {1}, {2, 0}});
    }

    /** "those with one constructor by their first fields .., then by the second ones, then by the third ones." */
    private static void depthByFieldsInTurn() {
        LazyTester x = Samples.lists();
        x.constructor(2, 3, 0, 0, 0);
        ofDepth(x, 2, 1, new int[][] {
            {0, 0, 0, 0}, {0, 0, 0, 1}, {0, 0, 1, 0}, {0, 0, 1, 1},
            {0, 1, 0, 0}, {0, 1, 0, 1}, {0, 1, 1, 0}, {0, 1, 1, 1}});
    }

    /** "(in the order of values of depth d - 1 or less of that type)": a value's number depends on d. */
    private static void depthFieldsByOneDepthLess() {
        LazyTester x = Samples.trees();
        ofDepth(x, 0, 2, new int[][] {{0}, {1, 0, 0}, {1, 0, 1, 0, 0}, {1, 1, 0, 0, 0}, {1, 1, 0, 0, 1, 0, 0}});
        Expect.answers("of depth 3 or less", x.show(0, 3, 6), 5);
        Expect.shows("number 1 + 5 * 1 + 0 of depth 3 or less", x, 1, 1, 0, 0, 0);
        Expect.answers("of depth 4 or less", x.show(0, 4, 27), 5);
        Expect.shows("number 1 + 26 * 1 + 0 of depth 4 or less", x, 1, 1, 0, 0, 0);
    }

    /** "They are numbered 0, 1, .. in it." */
    private static void depthNumbers() {
        LazyTester x = Samples.trees();
        for (int depth = 0; depth <= 4; depth++) {
            int d = depth;
            long last = x.count(0, depth) - 1;
            Expect.answers("the first", x.show(0, depth, 0), 1);
            Expect.answers("the last is full", x.show(0, depth, last), (2 << depth) - 1);
            Expect.badState("none before the first", () -> x.show(0, d, -1));
            Expect.badState("none after the last", () -> x.show(0, d, last + 1));
        }
    }

    /** "ORDER of the values of a type of a size: by their constructors" */
    private static void sizeByConstructors() {
        LazyTester x = new LazyTester();
        x.constructor(0, 2, 0, 0, -1);
        x.constructor(0, 1, 0, -1, -1);
        x.constructor(0, 0, -1, -1, -1);
        ofSize(x, 0, 1, new int[][] {{2}});
        ofSize(x, 0, 2, new int[][] {{1, 2}});
        ofSize(x, 0, 3, new int[][] {{0, 2, 2}, {1, 1, 2}});
        ofSize(x, 0, 4, new int[][] {{0, 2, 1, 2}, {0, 1, 2, 2}, {1, 0, 2, 2}, {1, 1, 1, 2}});
    }

    /**
     * "those with one constructor by the size of the first field, then of the second one": type 0 has
     * its greater values first, by their constructors, but sizes come before these.
     */
    private static void sizeByTheFieldsSizes() {
        LazyTester x = new LazyTester();
        x.constructor(0, 1, 0, -1, -1);
        x.constructor(0, 0, -1, -1, -1);
        x.constructor(1, 3, 0, 0, 0);
        ofSize(x, 1, 4, new int[][] {{0, 1, 1, 1}});
        ofSize(x, 1, 5, new int[][] {{0, 1, 1, 0, 1}, {0, 1, 0, 1, 1}, {0, 0, 1, 1, 1}});
        ofSize(x, 1, 6, new int[][] {
            {0, 1, 1, 0, 0, 1}, {0, 1, 0, 1, 0, 1}, {0, 1, 0, 0, 1, 1},
            {0, 0, 1, 1, 0, 1}, {0, 0, 1, 0, 1, 1}, {0, 0, 0, 1, 1, 1}});
    }

    /**
     * "then, of all of whose fields have the same sizes, by the first field (in the order of values of
     * its size), the second and the third one." Type 1 has two values of size 1 and one of size 3.
     */
    private static void sizeByTheFieldsInTheirOrder() {
        LazyTester x = new LazyTester();
        x.constructor(0, 0, -1, -1, -1);
        x.constructor(1, 2, 0, 0, -1);
        x.constructor(1, 0, -1, -1, -1);
        x.constructor(1, 0, -1, -1, -1);
        x.constructor(2, 3, 1, 1, 1);
        ofSize(x, 2, 4, new int[][] {
            {0, 1, 1, 1}, {0, 1, 1, 2}, {0, 1, 2, 1}, {0, 1, 2, 2},
            {0, 2, 1, 1}, {0, 2, 1, 2}, {0, 2, 2, 1}, {0, 2, 2, 2}});
        ofSize(x, 2, 6, new int[][] {
            {0, 1, 1, 0, 0, 0}, {0, 1, 2, 0, 0, 0}, {0, 2, 1, 0, 0, 0}, {0, 2, 2, 0, 0, 0},
            {0, 1, 0, 0, 0, 1}, {0, 1, 0, 0, 0, 2}, {0, 2, 0, 0, 0, 1}, {0, 2, 0, 0, 0, 2},
            {0, 0, 0, 0, 1, 1}, {0, 0, 0, 0, 1, 2}, {0, 0, 0, 0, 2, 1}, {0, 0, 0, 0, 2, 2}});
        LazyTester y = Samples.trees();
        y.constructor(3, 1, 0, -1, -1);
        ofSize(y, 3, 8, new int[][] {
            {0, 1, 0, 1, 0, 1, 0, 0}, {0, 1, 0, 1, 1, 0, 0, 0}, {0, 1, 1, 0, 0, 1, 0, 0},
            {0, 1, 1, 0, 1, 0, 0, 0}, {0, 1, 1, 1, 0, 0, 0, 0}});
    }
}
