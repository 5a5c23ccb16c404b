/** Promise 15. */
public final class PassedTest {
    public static void main(String[] args) {
        ofCheck();
        ofRefine();
        many();
        Expect.end();
    }

    private static void ofCheck() {
        LazyTester x = Samples.trees();
        Expect.answers("at first", x.passed(), 0);
        x.test(0, 0);
        x.check(0, 2);
        Expect.answers("the leaf", x.passed(), 1);
        x.combine(2);
        x.check(0, 2);
        Expect.answers("none", x.passed(), 0);
        x.same(0, 0);
        x.check(0, 3);
        Expect.answers("all", x.passed(), 26);
        x.refine(5, 0);
        Expect.answers("the later one is the refine", x.passed(), 0);
    }

    private static void ofRefine() {
        LazyTester x = Samples.lists();
        x.test(0, 0);
        x.test(0, 1);
        x.combine(1);
        for (int depth = 0; depth <= 4; depth++) {
            x.refine(1, depth);
            Expect.answers("all of depth " + depth, x.passed(), x.count(1, depth));
        }
        x.test(0, 0);
        x.test(2, 1);
        x.combine(1);
        x.refine(1, 4);
        Expect.answers("the empty list, before one of one element refutes it", x.passed(), 1);
        x.discard();
        x.test(0, 0);
        x.test(2, 1);
        x.combine(2);
        x.combine(1);
        x.refine(1, 4);
        Expect.answers("the empty list and those of one element", x.passed(), 3);
        LazyTester y = Samples.empties();
        y.test(0, 0);
        y.refine(1, 4);
        Expect.answers("a hole of no values", y.passed(), 0);
    }

    private static void many() {
        LazyTester x = Samples.bushes();
        x.test(0, 3);
        x.combine(2);
        x.test(0, 3);
        x.combine(1);
        x.refine(0, 3);
        Expect.answers("the sum of four", x.passed(), 21567172);
        x.refine(0, 4);
        Expect.answers("more than MANY", x.passed(), LazyTester.MANY);
        LazyTester y = Samples.bushes();
        y.constructor(1, 2, 0, 0, -1);
        y.constructor(1, 2, 0, 0, -1);
        y.constructor(1, 2, 0, 0, -1);
        y.test(0, 3);
        y.combine(2);
        y.refine(1, 4);
        Expect.answers("MANY by a sum of three less", y.passed(), LazyTester.MANY);
        y.constructor(2, 3, 0, 0, 3);
        y.refine(2, 4);
        Expect.answers("much times much times none", y.passed(), 0);
        y.constructor(3, 0, -1, -1, -1);
        y.refine(2, 4);
        Expect.answers("much times much times one", y.passed(), 465142908077584L);
        y.refine(2, 3);
        Expect.answers("of depth 2 or less", y.passed(), 193L * 193);
    }
}
