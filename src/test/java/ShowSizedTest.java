/** Promise 6. */
public final class ShowSizedTest {
    public static void main(String[] args) {
        trees();
        sizesBeforeValues();
        chains();
        wrongArguments();
        Expect.end();
    }

    private static void trees() {
        LazyTester x = Samples.trees();
        int[][] due = {
            {1, 0, 1, 0, 1, 0, 0},
            {1, 0, 1, 1, 0, 0, 0},
            {1, 1, 0, 0, 1, 0, 0},
            {1, 1, 0, 1, 0, 0, 0},
            {1, 1, 1, 0, 0, 0, 0}};
        for (int n = 0; n < due.length; n++) {
            Expect.answers("showSized", x.showSized(0, 7, n), 7);
            Expect.shows("tree " + n, x, due[n]);
        }
    }

    /** Type 1 has 0 of size 3 before 1, 2 of size 1: a small first field comes first, whatever its constructor. */
    private static void sizesBeforeValues() {
        LazyTester x = new LazyTester();
        x.constructor(0, 0, -1, -1, -1);
        x.constructor(1, 2, 0, 0, -1);
        x.constructor(1, 0, -1, -1, -1);
        x.constructor(1, 0, -1, -1, -1);
        x.constructor(2, 3, 1, 1, 1);
        Expect.answers("sized", x.sized(2, 6), 12);
        int[][] due = {
            {0, 1, 1, 0, 0, 0}, {0, 1, 2, 0, 0, 0}, {0, 2, 1, 0, 0, 0}, {0, 2, 2, 0, 0, 0},
            {0, 1, 0, 0, 0, 1}, {0, 1, 0, 0, 0, 2}, {0, 2, 0, 0, 0, 1}, {0, 2, 0, 0, 0, 2},
            {0, 0, 0, 0, 1, 1}, {0, 0, 0, 0, 1, 2}, {0, 0, 0, 0, 2, 1}, {0, 0, 0, 0, 2, 2}};
        for (int n = 0; n < due.length; n++) {
            Expect.answers("showSized", x.showSized(2, 6, n), 6);
            Expect.shows("triple " + n, x, due[n]);
        }
    }

    private static void chains() {
        LazyTester x = Samples.pairs();
        Expect.answers("a chain deeper than 4", x.showSized(0, 12, 0), 12);
        Expect.shows("a chain", x, 1, 1, 1, 1, 1, 1, 1, 1, 1, 1, 1, 0);
        Expect.answers("size 1", x.showSized(0, 1, 0), 1);
        Expect.shows("size 1", x, 0);
    }

    private static void wrongArguments() {
        LazyTester x = Samples.trees();
        x.show(0, 1, 1);
        Expect.noSuchIndex("type -1", () -> x.showSized(-1, 1, 0));
        Expect.noSuchIndex("type 6", () -> x.showSized(6, 0, -1));
        Expect.badArgument("size 0", () -> x.showSized(0, 0, -1));
        Expect.badArgument("size 13", () -> x.showSized(0, 13, 0));
        Expect.badState("number -1", () -> x.showSized(0, 7, -1));
        Expect.badState("number 5 of 5", () -> x.showSized(0, 7, 5));
        Expect.badState("of a size without values", () -> x.showSized(0, 2, 0));
        Expect.shows("what was shown stays", x, 1, 0, 0);
    }
}
