/** Promise 9. */
public final class SamePropertyTest {
    public static void main(String[] args) {
        wrongArguments();
        atMostTwenty();
        meaning();
        alikeAcrossTypes();
        Expect.end();
    }

    private static void wrongArguments() {
        LazyTester x = new LazyTester();
        Expect.badArgument("p 4", () -> x.same(4, 0));
        Expect.badArgument("q 8", () -> x.same(0, 8));
        Expect.badArgument("p -1", () -> x.same(-1, 0));
        Expect.badArgument("q -1", () -> x.same(0, -1));
        Expect.badArgument("p of five steps", () -> x.same(341, 0));
        Expect.badArgument("q of five steps", () -> x.same(0, 1023));
        Expect.answers("paths of four steps", x.same(85, 255), 1);
        Expect.answers("a second one", x.same(0, 0), 2);
    }

    private static void atMostTwenty() {
        LazyTester x = new LazyTester();
        for (int n = 1; n <= 20; n++) {
            Expect.answers("property", x.same(0, 1), n);
        }
        Expect.badState("the 21st", () -> x.same(0, 0));
        Expect.badArgument("a wrong path first", () -> x.same(0, 4));
    }

    private static void meaning() {
        LazyTester x = Samples.trees();
        x.same(1, 2);
        Expect.answers("nothing at both, leaves, then a leaf and a node", x.check(0, 2), 2);
        x.discard();
        x.same(1, 5);
        Expect.answers("nothing at both, then something at one", x.check(0, 2), 1);
        x.discard();
        x.same(5, 1);
        Expect.answers("nothing at one, the first", x.check(0, 2), 1);
        x.discard();
        x.same(0, 0);
        Expect.answers("itself", x.check(0, 4), LazyTester.NONE);
        x.discard();
        x.same(1, 2);
        x.combine(2);
        x.test(1, 0);
        x.combine(1);
        x.test(0, 0);
        x.combine(1);
        Expect.answers("two nodes that are alike", x.check(0, 2), 4);
        x.discard();
        x.test(1, 1);
        x.combine(2);
        x.same(5, 9);
        x.combine(2);
        x.combine(1);
        x.same(1, 2);
        x.combine(1);
        Expect.answers("a difference at a second field alone", x.check(0, 3), 8);
        Expect.shows("it", x, 1, 1, 0, 0, 1, 0, 1, 0, 0);
    }

    /** Type 1: unit (0), one of a unit (1). Type 2: unit (0), one of two units (1). Type 3: pairs of both. */
    private static void alikeAcrossTypes() {
        LazyTester x = new LazyTester();
        x.constructor(0, 0, -1, -1, -1);
        x.constructor(1, 0, -1, -1, -1);
        x.constructor(1, 1, 0, -1, -1);
        x.constructor(2, 0, -1, -1, -1);
        x.constructor(2, 2, 0, 0, -1);
        x.constructor(3, 2, 1, 2, -1);
        x.same(1, 2);
        x.combine(2);
        Expect.answers("units of two types", x.check(3, 2), 0);
        x.test(1, 0);
        x.combine(1);
        Expect.answers("the same constructor number, other fields", x.check(3, 2), LazyTester.NONE);
    }
}
