/** Promise 15. */
public final class PassedTest {
    public static void main(String[] args) {
        noneAtFirst();
        ofCheck();
        ofRefine();
        ofOneDepthLessForEachStep();
        itMayBeNone();
        beforeItIsRefuted();
        moreThanMany();
        justBelowMany();
        whicheverCameLater();
        Expect.end();
    }

    /** "0 if there was none." */
    private static void noneAtFirst() {
        LazyTester x = Samples.trees();
        x.test(0, 0);
        x.show(0, 0, 0);
        Expect.answers("other calls do not count", x.passed(), 0);
    }

    /** "For how many values the latest check() found it true": the one of which it is false is not counted. */
    private static void ofCheck() {
        LazyTester x = Samples.trees();
        x.test(0, 0);
        x.check(0, 2);
        Expect.answers("the leaf", x.passed(), 1);
        x.combine(2);
        x.check(0, 2);
        Expect.answers("none", x.passed(), 0);
        x.same(0, 0);
        x.check(0, 3);
        Expect.answers("all", x.passed(), 26);
        x.check(5, 3);
        Expect.answers("no values", x.passed(), 0);
    }

    /** "for the latest refine(): how many values the partial ones that passed stand for" */
    private static void ofRefine() {
        LazyTester x = Samples.lists();
        x.test(0, 0);
        x.test(0, 1);
        x.combine(1);
        for (int depth = 0; depth <= 4; depth++) {
            x.refine(1, depth);
            Expect.answers("all of depth " + depth, x.passed(), x.count(1, depth));
        }
        LazyTester y = Samples.bushes();
        y.constructor(1, 3, 0, 0, 2);
        y.constructor(2, 0, -1, -1, -1);
        y.test(0, 0);
        y.refine(1, 4);
        Expect.answers("the holes' values multiplied", y.passed(), 465142908077584L);
        y.refine(1, 3);
        Expect.answers("of depth 2 or less", y.passed(), 193L * 193);
    }

    /** "(for a hole of height h all of its type of depth d - h or less": TEST 1, 0 leaves field 1, TEST 5, 0 more. */
    private static void ofOneDepthLessForEachStep() {
        LazyTester x = Samples.trees();
        x.test(0, 0);
        x.test(1, 0);
        x.combine(1);
        x.refine(0, 4);
        Expect.answers("the leaf, and a hole of height 1", x.passed(), 1 + 26);
        x.discard();
        x.test(1, 0);
        x.combine(2);
        x.test(2, 0);
        x.combine(1);
        x.refine(0, 4);
        Expect.answers("the leaf; two leaves", x.passed(), 2);
        x.discard();
        x.test(1, 1);
        x.test(1, 0);
        x.combine(1);
        x.test(0, 0);
        x.combine(1);
        x.refine(0, 4);
        Expect.answers("the leaf; a leaf and height 1; height 2, 2 and 1", x.passed(), 1 + 26 + 5 * 5 * 26);
    }

    /** "it may be none)" */
    private static void itMayBeNone() {
        LazyTester y = Samples.empties();
        y.test(0, 0);
        y.refine(1, 4);
        Expect.counts("a hole of no values", y, 2, 0);
        LazyTester x = Samples.bushes();
        x.constructor(1, 3, 0, 0, 2);
        x.constructor(1, 3, 2, 0, 0);
        x.constructor(1, 0, -1, -1, -1);
        x.test(0, 3);
        x.combine(2);
        x.refine(1, 4);
        Expect.counts("much times much times none, twice, and one", x, 4, 1);
    }

    private static void beforeItIsRefuted() {
        LazyTester x = Samples.lists();
        x.test(0, 0);
        x.test(2, 1);
        x.combine(1);
        x.refine(1, 4);
        Expect.answers("the empty list, before one of one element refutes it", x.passed(), 1);
        x.discard();
        x.test(0, 0);
        x.test(2, 1);
        x.combine(2);
        x.combine(1);
        x.refine(1, 4);
        Expect.answers("the empty list and those of one element", x.passed(), 3);
    }

    /** "MANY if there are more" */
    private static void moreThanMany() {
        LazyTester x = Samples.bushes();
        x.test(0, 3);
        x.combine(2);
        x.test(0, 3);
        x.combine(1);
        x.refine(0, 3);
        Expect.answers("the sum of four", x.passed(), 21567172);
        x.refine(0, 4);
        Expect.answers("by a product", x.passed(), LazyTester.MANY);
        LazyTester y = Samples.bushes();
        y.test(0, 3);
        y.combine(2);
        y.constructor(1, 2, 0, 0, -1);
        y.constructor(1, 2, 0, 0, -1);
        y.refine(1, 4);
        Expect.answers("a sum of two", y.passed(), 2 * 465142908077584L);
        y.constructor(1, 2, 0, 0, -1);
        y.refine(1, 4);
        Expect.answers("a sum of three, which is more", y.passed(), LazyTester.MANY);
    }

    /** "MANY if there are more": three times 2 to the 48th are not. */
    private static void justBelowMany() {
        LazyTester x = Samples.belowMany();
        x.test(0, 0);
        x.refine(5, 4);
        Expect.answers("three times 2 to the 48th", x.passed(), 844424930131968L);
    }

    private static void whicheverCameLater() {
        LazyTester x = Samples.trees();
        x.same(0, 0);
        x.check(0, 2);
        Expect.answers("check", x.passed(), 5);
        x.refine(0, 1);
        Expect.answers("refine", x.passed(), 2);
        x.check(0, 0);
        Expect.answers("check", x.passed(), 1);
        Expect.answers("asked again", x.passed(), 1);
    }
}
