/** Promise 5. */
public final class SizedTest {
    public static void main(String[] args) {
        ofASize();
        deeperThanFour();
        most();
        noSuchType();
        noSuchSize();
        Expect.end();
    }

    /** "How many values of a size a type has." */
    private static void ofASize() {
        long[] trees = {1, 0, 1, 0, 2, 0, 5, 0, 14, 0, 42, 0};
        long[] lists = {1, 0, 2, 0, 4, 0, 8, 0, 16, 0, 32, 0};
        long[] pairs = {0, 0, 1, 2, 3, 4, 5, 6, 7, 8, 9, 10};
        long[] bushes = {1, 0, 0, 3, 0, 0, 27, 0, 0, 324, 0, 0};
        for (int size = 1; size <= 12; size++) {
            Expect.answers("trees of " + size, Samples.trees().sized(0, size), trees[size - 1]);
            Expect.answers("lists of " + size, Samples.lists().sized(1, size), lists[size - 1]);
            Expect.answers("pairs of " + size, Samples.pairs().sized(2, size), pairs[size - 1]);
            Expect.answers("bushes of " + size, Samples.bushes().sized(0, size), bushes[size - 1]);
            Expect.answers("none of " + size, Samples.empties().sized(1, size), 0);
            Expect.answers("no constructors", Samples.empties().sized(5, size), 0);
        }
        LazyTester x = Samples.trees();
        x.constructor(0, 1, 0, -1, -1);
        Expect.answers("a constructor more", x.sized(0, 4), 4);
        Expect.answers("a Motzkin number", x.sized(0, 12), 5798);
    }

    private static void deeperThanFour() {
        LazyTester x = Samples.pairs();
        for (int size = 1; size <= 12; size++) {
            Expect.answers("a number of depth " + (size - 1), x.sized(0, size), 1);
        }
    }

    /** There is no MANY here: two leaves and two kinds of nodes, 2 ^ 11 ways for each of 42 forms of trees. */
    private static void most() {
        LazyTester x = new LazyTester();
        x.constructor(0, 0, -1, -1, -1);
        x.constructor(0, 0, -1, -1, -1);
        x.constructor(0, 2, 0, 0, -1);
        x.constructor(0, 2, 0, 0, -1);
        Expect.answers("of size 11", x.sized(0, 11), 42L << 11);
        LazyTester y = new LazyTester();
        y.constructor(0, 0, -1, -1, -1);
        for (int c = 1; c <= 3; c++) {
            y.constructor(0, 1, 0, -1, -1);
        }
        Expect.answers("3 to the 11th chains of size 12", y.sized(0, 12), 177147);
    }

    /** "IndexOutOfBoundsException if there is no such type" */
    private static void noSuchType() {
        LazyTester x = Samples.trees();
        for (int type : new int[] {-1, 6, Integer.MIN_VALUE, Integer.MAX_VALUE}) {
            Expect.noSuchIndex("type " + type, () -> x.sized(type, 1));
        }
        Expect.answers("type 0", x.sized(0, 1), 1);
        Expect.answers("type 5", x.sized(5, 1), 0);
    }

    /** "IllegalArgumentException if size is not 1 .. 12" */
    private static void noSuchSize() {
        LazyTester x = Samples.pairs();
        for (int size : new int[] {0, 13, -1, Integer.MIN_VALUE, Integer.MAX_VALUE}) {
            Expect.badArgument("size " + size, () -> x.sized(0, size));
        }
        Expect.answers("size 1", x.sized(0, 1), 1);
        Expect.answers("size 12", x.sized(0, 12), 1);
    }
}
