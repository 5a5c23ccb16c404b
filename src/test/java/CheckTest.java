/** Promise 12. */
public final class CheckTest {
    public static void main(String[] args) {
        ordinary();
        onlyTheTopmost();
        atMostThousand();
        wrongArguments();
        Expect.end();
    }

    private static void ordinary() {
        LazyTester x = Samples.lists();
        x.test(1, 0);
        x.test(0, 0);
        x.combine(1);
        Expect.answers("the first list that begins with true", x.check(1, 2), 4);
        Expect.shows("it", x, 1, 1, 0);
        Expect.counts("it", x, 5, 4);
        Expect.answers("no list of depth 0 does", x.check(1, 0), LazyTester.NONE);
        Expect.shows("what was shown stays", x, 1, 1, 0);
        Expect.counts("all of depth 0", x, 1, 1);
        Expect.answers("no values at all", x.check(4, 4), LazyTester.NONE);
        Expect.counts("no values at all", x, 0, 0);
        Expect.shows("what was shown stays", x, 1, 1, 0);
    }

    private static void onlyTheTopmost() {
        LazyTester x = Samples.trees();
        x.test(0, 3);
        x.same(0, 0);
        Expect.answers("the one below is false, but not tested", x.check(0, 4), LazyTester.NONE);
        Expect.counts("all of them", x, 677, 677);
    }

    private static void atMostThousand() {
        LazyTester x = new LazyTester();
        for (int c = 0; c < 3; c++) {
            x.constructor(0, 0, -1, -1, -1);
        }
        for (int c = 0; c < 4; c++) {
            x.constructor(1, 0, -1, -1, -1);
        }
        x.constructor(2, 1, 0, -1, -1);
        x.constructor(2, 1, 0, -1, -1);
        x.constructor(2, 1, 1, -1, -1);
        x.constructor(3, 3, 2, 2, 2);
        x.test(0, 0);
        Expect.answers("a thousand", x.check(3, 2), LazyTester.NONE);
        Expect.counts("a thousand", x, 1000, 1000);
        x.constructor(3, 0, -1, -1, -1);
        Expect.badState("a thousand and one", () -> x.check(3, 2));
        Expect.counts("as before", x, 1000, 1000);
    }

    private static void wrongArguments() {
        LazyTester x = Samples.bushes();
        Expect.noSuchIndex("type before depth and pile", () -> x.check(6, 5));
        Expect.badArgument("depth before pile", () -> x.check(0, 5));
        Expect.badState("an empty pile", () -> x.check(0, 0));
        x.test(0, 0);
        x.check(0, 1);
        Expect.noSuchIndex("type -1", () -> x.check(-1, 0));
        Expect.badArgument("depth -1", () -> x.check(0, -1));
        Expect.badState("too many", () -> x.check(0, 3));
        Expect.badState("MANY", () -> x.check(0, 4));
        Expect.counts("as before", x, 2, 1);
        Expect.shows("as before", x, 1, 0, 0, 0);
    }
}
