/** Promise 8, and what TEST is. */
public final class TestPropertyTest {
    public static void main(String[] args) {
        constructorAtThePath();
        falseOfNothing();
        howManyLieThere();
        noPaths();
        noConstructors();
        atMostTwenty();
        twentySinceThePileWasEmpty();
        Expect.end();
    }

    /** "TEST p, c: what is at path p has constructor c" */
    private static void constructorAtThePath() {
        LazyTester x = Samples.lists();
        x.test(6, 0);
        Expect.answers("nothing at field 1 of field 0 of the empty list", x.check(1, 3), 0);
        x.test(10, 1);
        x.combine(2);
        Expect.answers("the first list of three", x.check(1, 3), 3);
        Expect.shows("it", x, 1, 0, 1, 0, 1, 0, 0);
        LazyTester y = Samples.trees();
        y.test(170, 0);
        y.combine(2);
        Expect.answers("four steps: field 1 four times", y.check(0, 4), 4);
        Expect.shows("the first tree with these", y, 1, 0, 1, 0, 1, 0, 1, 0, 0);
    }

    /** "false if there is nothing" */
    private static void falseOfNothing() {
        LazyTester x = Samples.pairs();
        for (int c = 0; c <= 3; c++) {
            x.discard();
            x.test(3, c);
            Expect.answers("a pair has no field 2", x.check(2, 1), 0);
            Expect.refuted("a pair has no field 2", x, 2, 1);
            x.combine(2);
            Expect.answers("so that NOT is true", x.check(2, 4), LazyTester.NONE);
        }
    }

    /** "Answers how many properties lie there." */
    private static void howManyLieThere() {
        LazyTester x = new LazyTester();
        Expect.answers("the first", x.test(0, 0), 1);
        Expect.answers("the second", x.test(0, 0), 2);
        x.combine(0);
        Expect.answers("two of them were made one", x.test(0, 0), 2);
        x.combine(2);
        Expect.answers("one of them was made another", x.test(0, 0), 3);
    }

    /** "IllegalArgumentException if p is no path of at most 4 steps" */
    private static void noPaths() {
        LazyTester x = new LazyTester();
        for (int p : new int[] {-1, 4, 8, 16, 20, 64, 252, 256, 257, 341, 1023}) {
            Expect.badArgument("test(" + p + ", 0)", () -> x.test(p, 0));
        }
        Expect.answers("the least of 4 steps", x.test(85, 0), 1);
        Expect.answers("the greatest of 4 steps", x.test(255, 0), 2);
    }

    /** "or c is not 0 .. 3" */
    private static void noConstructors() {
        LazyTester x = new LazyTester();
        for (int c : new int[] {-1, 4, -2, Integer.MIN_VALUE, Integer.MAX_VALUE}) {
            Expect.badArgument("test(0, " + c + ")", () -> x.test(0, c));
        }
        Expect.answers("the least", x.test(0, 0), 1);
        Expect.answers("the greatest, though no type has it", x.test(0, 3), 2);
    }

    /** "IllegalStateException if 20 properties have been made" */
    private static void atMostTwenty() {
        LazyTester x = new LazyTester();
        for (int n = 1; n <= 20; n++) {
            Expect.answers("property", x.test(n % 4, n % 4), n);
        }
        Expect.badState("the 21st", () -> x.test(0, 0));
        Expect.badState("once more", () -> x.test(0, 0));
    }

    /** "since the pile was empty last": whatever still lies there, and anew after that. */
    private static void twentySinceThePileWasEmpty() {
        LazyTester x = new LazyTester();
        for (int n = 1; n <= 10; n++) {
            x.test(0, 0);
        }
        for (int n = 11; n <= 19; n++) {
            x.combine(0);
        }
        Expect.answers("the 20th, beside the only one", x.test(0, 0), 2);
        Expect.badState("the 21st", () -> x.test(0, 0));
        x.discard();
        for (int n = 1; n <= 20; n++) {
            Expect.answers("anew", x.test(0, 0), n);
        }
        Expect.badState("the 21st", () -> x.test(0, 0));
    }
}
