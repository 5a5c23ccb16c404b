/** Promise 5. */
public final class SizedTest {
    public static void main(String[] args) {
        long[] trees = {1, 0, 1, 0, 2, 0, 5, 0, 14, 0, 42, 0};
        long[] lists = {1, 0, 2, 0, 4, 0, 8, 0, 16, 0, 32, 0};
        long[] pairs = {0, 0, 1, 2, 3, 4, 5, 6, 7, 8, 9, 10};
        long[] bushes = {1, 0, 0, 3, 0, 0, 27, 0, 0, 324, 0, 0};
        for (int size = 1; size <= 12; size++) {
            Expect.answers("trees of " + size, Samples.trees().sized(0, size), trees[size - 1]);
            Expect.answers("lists of " + size, Samples.lists().sized(1, size), lists[size - 1]);
            Expect.answers("pairs of " + size, Samples.pairs().sized(2, size), pairs[size - 1]);
            Expect.answers("bushes of " + size, Samples.bushes().sized(0, size), bushes[size - 1]);
            Expect.answers("none of " + size, Samples.empties().sized(1, size), 0);
        }
        LazyTester x = Samples.trees();
        x.constructor(0, 1, 0, -1, -1);
        Expect.answers("a constructor more", x.sized(0, 4), 4);
        Expect.answers("deeper than 4", x.sized(0, 12), 5798);
        wrongArguments();
        Expect.end();
    }

    private static void wrongArguments() {
        LazyTester x = Samples.trees();
        Expect.noSuchIndex("type -1", () -> x.sized(-1, 1));
        Expect.noSuchIndex("type 6", () -> x.sized(6, 0));
        Expect.badArgument("size 0", () -> x.sized(0, 0));
        Expect.badArgument("size 13", () -> x.sized(0, 13));
        Expect.badArgument("size -1", () -> x.sized(0, -1));
    }
}
