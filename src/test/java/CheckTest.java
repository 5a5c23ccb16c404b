/** Promise 12. */
public final class CheckTest {
    public static void main(String[] args) {
        onlyTheTopmost();
        inOrderUntilItIsFalse();
        theNumberOfThatValue();
        noneIfThereIsNone();
        noValues();
        noSuchType();
        noSuchDepth();
        emptyPile();
        moreThanThousand();
        Expect.end();
    }

    /** "Tests the topmost property" */
    private static void onlyTheTopmost() {
        LazyTester x = Samples.trees();
        x.test(0, 3);
        x.same(0, 0);
        Expect.answers("the one below is false, but not tested", x.check(0, 4), LazyTester.NONE);
        Expect.counts("all of them", x, 677, 677);
    }

    /** "on all values of a depth or less, in order, until it is false" */
    private static void inOrderUntilItIsFalse() {
        LazyTester x = Samples.lists();
        x.test(1, 0);
        x.test(0, 0);
        x.combine(1);
        Expect.answers("the first list that begins with true", x.check(1, 2), 4);
        Expect.shows("it", x, 1, 1, 0);
        Expect.counts("it", x, 5, 4);
    }

    /** "Answers the number of that value, which is shown": the first, and the last of a thousand. */
    private static void theNumberOfThatValue() {
        LazyTester x = Samples.thousand();
        x.test(0, 1);
        Expect.answers("the first", x.check(3, 2), 0);
        Expect.shows("the first", x, 0, 0, 0, 0, 0, 0, 0);
        Expect.counts("the first", x, 1, 0);
        x.test(1, 2);
        x.test(5, 3);
        x.combine(0);
        x.test(9, 3);
        x.combine(0);
        x.test(13, 3);
        x.combine(0);
        x.combine(2);
        Expect.answers("the last", x.check(3, 2), 999);
        Expect.shows("the last", x, 0, 2, 3, 2, 3, 2, 3);
        Expect.counts("the last", x, 1000, 999);
    }

    /** "NONE if there is none (what was shown stays then)." */
    private static void noneIfThereIsNone() {
        LazyTester x = Samples.trees();
        x.test(0, 0);
        Expect.answers("the leaf", x.check(0, 0), LazyTester.NONE);
        Expect.shows("nothing was shown", x);
        Expect.answers("a node", x.check(0, 1), 1);
        Expect.answers("the leaf", x.check(0, 0), LazyTester.NONE);
        Expect.shows("what was shown stays", x, 1, 0, 0);
        Expect.counts("the leaf", x, 1, 1);
    }

    private static void noValues() {
        LazyTester x = Samples.empties();
        x.show(2, 0, 0);
        x.test(0, 3);
        for (int type : new int[] {0, 1, 5}) {
            x.check(2, 0);
            Expect.counts("a unit", x, 1, 0);
            Expect.answers("no values at all", x.check(type, 4), LazyTester.NONE);
            Expect.counts("no values at all", x, 0, 0);
        }
        Expect.shows("what was shown stays", x, 0);
    }

    /** "IndexOutOfBoundsException .. as count()" */
    private static void noSuchType() {
        LazyTester x = Samples.trees();
        x.test(0, 0);
        for (int type : new int[] {-1, 6, Integer.MIN_VALUE, Integer.MAX_VALUE}) {
            Expect.noSuchIndex("type " + type, () -> x.check(type, 0));
        }
    }

    /** "IllegalArgumentException as count()" */
    private static void noSuchDepth() {
        LazyTester x = Samples.trees();
        x.test(0, 0);
        for (int depth : new int[] {-1, 5, Integer.MIN_VALUE, Integer.MAX_VALUE}) {
            Expect.badArgument("depth " + depth, () -> x.check(0, depth));
        }
        Expect.answers("depth 0", x.check(0, 0), LazyTester.NONE);
        Expect.answers("depth 4", x.check(0, 4), 1);
    }

    /** "IllegalStateException if the pile is empty" */
    private static void emptyPile() {
        LazyTester x = Samples.trees();
        Expect.badState("at first", () -> x.check(0, 0));
        Expect.badState("no values to test", () -> x.check(5, 0));
        x.test(0, 0);
        Expect.answers("one property", x.check(0, 0), LazyTester.NONE);
        x.discard();
        Expect.badState("again", () -> x.check(0, 0));
    }

    /** "or there are more than 1000 values": even if it would be false of the first. */
    private static void moreThanThousand() {
        LazyTester x = Samples.thousand();
        x.test(0, 0);
        Expect.answers("a thousand", x.check(3, 2), LazyTester.NONE);
        Expect.counts("a thousand", x, 1000, 1000);
        x.constructor(3, 0, -1, -1, -1);
        Expect.badState("a thousand and one", () -> x.check(3, 2));
        x.test(0, 1);
        Expect.badState("false of the first", () -> x.check(3, 2));
        Expect.answers("of less depth there are fewer", x.check(3, 1), LazyTester.NONE);
        LazyTester y = Samples.bushes();
        y.test(0, 0);
        Expect.badState("millions", () -> y.check(0, 3));
        Expect.badState("MANY", () -> y.check(0, 4));
    }
}
