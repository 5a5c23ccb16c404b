/** Promise 6; which value has which number, OrderTest tests. */
public final class ShowSizedTest {
    public static void main(String[] args) {
        trees();
        answersItsSize();
        firstAndLastOfSize12();
        noSuchType();
        noSuchSize();
        noValueOfThatNumber();
        noValueAtAll();
        Expect.end();
    }

    /** "Shows the value with a number, of those of a size." */
    private static void trees() {
        LazyTester x = Samples.trees();
        int[][] due = {
            {1, 0, 1, 0, 1, 0, 0},
            {1, 0, 1, 1, 0, 0, 0},
            {1, 1, 0, 0, 1, 0, 0},
            {1, 1, 0, 1, 0, 0, 0},
            {1, 1, 1, 0, 0, 0, 0}};
        for (int n = 0; n < due.length; n++) {
            Expect.answers("showSized", x.showSized(0, 7, n), 7);
            Expect.shows("tree " + n, x, due[n]);
        }
    }

    /** "Answers its size.", for values deeper than 4, too. */
    private static void answersItsSize() {
        LazyTester x = Samples.pairs();
        for (int size = 1; size <= 12; size++) {
            Expect.answers("a number", x.showSized(0, size, 0), size);
            for (int j = 0; j < 13; j++) {
                Expect.answers("shown", x.shown(j), j < size - 1 ? 1 : j == size - 1 ? 0 : LazyTester.NONE);
            }
        }
    }

    private static void firstAndLastOfSize12() {
        LazyTester x = Samples.trees();
        x.constructor(0, 1, 0, -1, -1);
        Expect.answers("the first", x.showSized(0, 12, 0), 12);
        Expect.shows("the first", x, 1, 0, 1, 0, 1, 0, 1, 0, 1, 0, 2, 0);
        Expect.answers("the last", x.showSized(0, 12, 5797), 12);
        Expect.shows("the last", x, 2, 2, 2, 2, 2, 2, 2, 2, 2, 2, 2, 0);
        Expect.badState("no other", () -> x.showSized(0, 12, 5798));
    }

    /** "IndexOutOfBoundsException .. as sized()" */
    private static void noSuchType() {
        LazyTester x = Samples.trees();
        for (int type : new int[] {-1, 6, Integer.MIN_VALUE, Integer.MAX_VALUE}) {
            Expect.noSuchIndex("type " + type, () -> x.showSized(type, 1, 0));
        }
    }

    /** "IllegalArgumentException as sized()" */
    private static void noSuchSize() {
        LazyTester x = Samples.pairs();
        for (int size : new int[] {0, 13, -1, Integer.MIN_VALUE, Integer.MAX_VALUE}) {
            Expect.badArgument("size " + size, () -> x.showSized(0, size, 0));
        }
        Expect.answers("size 1", x.showSized(0, 1, 0), 1);
        Expect.answers("size 12", x.showSized(0, 12, 0), 12);
    }

    /** "IllegalStateException if there is no value of that number": numbers that an int would take for others, too. */
    private static void noValueOfThatNumber() {
        LazyTester x = Samples.trees();
        x.show(0, 1, 1);
        for (long number : new long[] {-1, 5, 6, 1L << 31, 1L << 32, (1L << 32) + 1, -(1L << 32), Long.MIN_VALUE,
            Long.MIN_VALUE + 1, LazyTester.MANY, Long.MAX_VALUE}) {
            Expect.badState("number " + number + " of 5", () -> x.showSized(0, 7, number));
        }
        Expect.shows("what was shown stays", x, 1, 0, 0);
        Expect.answers("number 4 of 5", x.showSized(0, 7, 4), 7);
    }

    private static void noValueAtAll() {
        LazyTester x = Samples.trees();
        for (int size = 2; size <= 12; size += 2) {
            int s = size;
            Expect.badState("trees have odd sizes", () -> x.showSized(0, s, 0));
        }
        Expect.badState("no constructors", () -> x.showSized(5, 1, 0));
        LazyTester y = Samples.empties();
        Expect.badState("none without end", () -> y.showSized(0, 12, 0));
        Expect.badState("pairs of none", () -> y.showSized(1, 12, 0));
    }
}
