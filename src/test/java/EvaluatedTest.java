/** Promise 14. */
public final class EvaluatedTest {
    public static void main(String[] args) {
        LazyTester x = Samples.trees();
        Expect.answers("at first", x.evaluated(), 0);
        x.test(0, 0);
        x.show(0, 2, 1);
        x.count(0, 2);
        Expect.answers("other calls do not count", x.evaluated(), 0);
        x.check(0, 4);
        Expect.answers("until it is false", x.evaluated(), 2);
        x.refine(0, 4);
        Expect.answers("the hole, the leaf, the node", x.evaluated(), 3);
        x.check(0, 0);
        Expect.answers("the later one is the check", x.evaluated(), 1);
        x.same(0, 0);
        x.check(0, 4);
        Expect.answers("all", x.evaluated(), 677);
        Expect.badState("a check that throws", () -> {
            x.discard();
            return x.check(0, 4);
        });
        Expect.answers("changes nothing", x.evaluated(), 677);
        x.test(0, 0);
        Expect.noSuchIndex("a refine that throws", () -> x.refine(6, 4) ? 1 : 0);
        Expect.answers("changes nothing, if it does not fail", x.evaluated(), 677);
        x.check(3, 4);
        Expect.answers("no values", x.evaluated(), 0);
        x.refine(3, 4);
        Expect.answers("the hole", x.evaluated(), 1);
        failing();
        Expect.end();
    }

    private static void failing() {
        LazyTester x = Samples.trees();
        x.constructor(0, 1, 0, -1, -1);
        x.same(0, 0);
        Expect.badState("too many", () -> x.refine(0, 4) ? 1 : 0);
        Expect.answers("what it came to", x.evaluated(), 2000);
        x.discard();
        x.test(0, 0);
        x.refine(0, 4);
        Expect.answers("counted anew", x.evaluated(), 3);
    }
}
