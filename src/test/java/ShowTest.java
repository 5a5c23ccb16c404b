/** Promise 4. */
public final class ShowTest {
    public static void main(String[] args) {
        order();
        bigNumbers();
        wrongArguments();
        Expect.end();
    }

    private static void order() {
        LazyTester x = Samples.trees();
        int[][] due = {{0}, {1, 0, 0}, {1, 0, 1, 0, 0}, {1, 1, 0, 0, 0}, {1, 1, 0, 0, 1, 0, 0}};
        for (int n = 0; n < due.length; n++) {
            Expect.answers("show", x.show(0, 2, n), due[n].length);
            Expect.shows("tree " + n, x, due[n]);
        }
        LazyTester lists = Samples.lists();
        Expect.answers("a list", lists.show(1, 2, 3), 5);
        Expect.shows("a list", lists, 1, 0, 1, 1, 0);
        LazyTester empties = Samples.empties();
        empties.constructor(1, 0, -1, -1, -1);
        Expect.answers("a constructor without values is left out", empties.show(1, 4, 0), 1);
        Expect.shows("the second constructor", empties, 1);
    }

    private static void bigNumbers() {
        LazyTester x = Samples.bushes();
        Expect.answers("the last below MANY", x.show(0, 4, LazyTester.MANY - 1), 82);
        Expect.answers("the first", x.show(0, 4, 0), 1);
        Expect.answers("the last of depth 3", x.show(0, 3, 21567171), 40);
        Expect.shows("three of three of three leaves", x,
                3, 3, 3, 0, 0, 0, 3, 0, 0, 0, 3, 0, 0, 0,
                3, 3, 0, 0, 0, 3, 0, 0, 0, 3, 0, 0, 0,
                3, 3, 0, 0, 0, 3, 0, 0, 0, 3, 0, 0, 0);
        Expect.badState("number MANY", () -> x.show(0, 4, LazyTester.MANY));
        Expect.badState("more than MANY", () -> x.show(0, 4, Long.MAX_VALUE));
    }

    private static void wrongArguments() {
        LazyTester x = Samples.trees();
        x.show(0, 1, 1);
        Expect.noSuchIndex("type -1", () -> x.show(-1, 0, 0));
        Expect.noSuchIndex("type 6", () -> x.show(6, 5, -1));
        Expect.badArgument("depth -1", () -> x.show(0, -1, 0));
        Expect.badArgument("depth 5", () -> x.show(0, 5, -1));
        Expect.badState("number -1", () -> x.show(0, 2, -1));
        Expect.badState("a least number", () -> x.show(0, 2, Long.MIN_VALUE));
        Expect.badState("number 5 of 5", () -> x.show(0, 2, 5));
        Expect.badState("number 1 of 1", () -> x.show(0, 0, 1));
        Expect.badState("of a type without values", () -> x.show(3, 4, 0));
        Expect.shows("what was shown stays", x, 1, 0, 0);
    }
}
