/** Promise 4; which value has which number, OrderTest tests. */
public final class ShowTest {
    public static void main(String[] args) {
        eachBeforeItsFields();
        answersHowMany();
        bigNumbers();
        noSuchType();
        noSuchDepth();
        noValueOfThatNumber();
        noValueAtAll();
        manyOrMore();
        Expect.end();
    }

    /** "what is SHOWN is its constructors, each before its fields'" */
    private static void eachBeforeItsFields() {
        LazyTester lists = Samples.lists();
        Expect.answers("a list", lists.show(1, 2, 3), 5);
        Expect.shows("a list", lists, 1, 0, 1, 1, 0);
        LazyTester empties = Samples.empties();
        empties.constructor(1, 0, -1, -1, -1);
        Expect.answers("a constructor without values is left out", empties.show(1, 4, 0), 1);
        Expect.shows("the second constructor", empties, 1);
    }

    /** "Answers how many": 1 at the least, 121 at the most. */
    private static void answersHowMany() {
        LazyTester x = Samples.widest();
        Expect.answers("the unit", x.show(4, 4, 0), 1);
        Expect.answers("depth 1", x.show(3, 4, 0), 4);
        Expect.answers("depth 2", x.show(2, 4, 0), 13);
        Expect.answers("depth 3", x.show(1, 4, 0), 40);
        Expect.answers("depth 4", x.show(0, 4, 0), 121);
    }

    private static void bigNumbers() {
        LazyTester x = Samples.bushes();
        Expect.answers("the first", x.show(0, 4, 0), 1);
        Expect.answers("the last of depth 3", x.show(0, 3, 21567171), 40);
        Expect.shows("three of three of three leaves", x,
                3, 3, 3, 0, 0, 0, 3, 0, 0, 0, 3, 0, 0, 0,
                3, 3, 0, 0, 0, 3, 0, 0, 0, 3, 0, 0, 0,
                3, 3, 0, 0, 0, 3, 0, 0, 0, 3, 0, 0, 0);
    }

    /** "IndexOutOfBoundsException .. as count()" */
    private static void noSuchType() {
        LazyTester x = Samples.trees();
        for (int type : new int[] {-1, 6, Integer.MIN_VALUE, Integer.MAX_VALUE}) {
            Expect.noSuchIndex("type " + type, () -> x.show(type, 0, 0));
        }
    }

    /** "IllegalArgumentException as count()" */
    private static void noSuchDepth() {
        LazyTester x = Samples.trees();
        for (int depth : new int[] {-1, 5, Integer.MIN_VALUE, Integer.MAX_VALUE}) {
            Expect.badArgument("depth " + depth, () -> x.show(0, depth, 0));
        }
        Expect.answers("depth 0", x.show(0, 0, 0), 1);
        Expect.answers("depth 4", x.show(0, 4, 676), 31);
    }

    /** "IllegalStateException if there is no value of that number": numbers that an int would take for others, too. */
    private static void noValueOfThatNumber() {
        LazyTester x = Samples.trees();
        x.show(0, 1, 1);
        for (long number : new long[] {-1, 5, 6, 1L << 31, 1L << 32, (1L << 32) + 1, -(1L << 32), Long.MIN_VALUE,
            Long.MIN_VALUE + 1, Long.MAX_VALUE}) {
            Expect.badState("number " + number + " of 5", () -> x.show(0, 2, number));
        }
        Expect.badState("number 1 of 1", () -> x.show(0, 0, 1));
        Expect.shows("what was shown stays", x, 1, 0, 0);
        Expect.answers("number 4 of 5", x.show(0, 2, 4), 7);
    }

    private static void noValueAtAll() {
        LazyTester x = Samples.empties();
        for (int depth = 0; depth <= 4; depth++) {
            int d = depth;
            Expect.badState("number 0 of none", () -> x.show(0, d, 0));
            Expect.badState("number 0 of no constructors", () -> x.show(5, d, 0));
        }
        LazyTester y = Samples.pairs();
        Expect.badState("not of depth 0", () -> y.show(2, 0, 0));
        Expect.answers("but of depth 1", y.show(2, 1, 0), 3);
    }

    /** "or number is MANY or more", though there are such values. */
    private static void manyOrMore() {
        LazyTester x = Samples.bushes();
        Expect.answers("the last below MANY", x.show(0, 4, LazyTester.MANY - 1), 82);
        Expect.badState("number MANY", () -> x.show(0, 4, LazyTester.MANY));
        Expect.badState("number MANY + 1", () -> x.show(0, 4, LazyTester.MANY + 1));
        Expect.badState("the greatest number", () -> x.show(0, 4, Long.MAX_VALUE));
        Expect.badState("the least number", () -> x.show(0, 4, Long.MIN_VALUE));
    }
}
