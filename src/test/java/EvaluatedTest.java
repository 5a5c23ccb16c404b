/** Promise 14. */
public final class EvaluatedTest {
    public static void main(String[] args) {
        noneAtFirst();
        ofCheck();
        ofRefine();
        whicheverCameLater();
        callsThatThrow();
        refiningThatFails();
        Expect.end();
    }

    /** "0 if there was none." */
    private static void noneAtFirst() {
        LazyTester x = Samples.trees();
        x.test(0, 0);
        x.show(0, 2, 1);
        x.showSized(0, 3, 0);
        x.count(0, 2);
        Expect.answers("other calls do not count", x.evaluated(), 0);
    }

    /** "How many values the latest check() has tested": from none to a thousand. */
    private static void ofCheck() {
        LazyTester x = Samples.thousand();
        x.same(0, 0);
        x.check(3, 2);
        Expect.answers("all", x.evaluated(), 1000);
        x.check(5, 4);
        Expect.answers("no values", x.evaluated(), 0);
        x.test(0, 1);
        x.check(3, 2);
        Expect.answers("false of the first", x.evaluated(), 1);
        x.test(3, 0);
        x.check(3, 2);
        Expect.answers("false of the fourth", x.evaluated(), 4);
    }

    /** "how often the latest refine() has evaluated": once at the least. */
    private static void ofRefine() {
        LazyTester x = Samples.trees();
        x.test(0, 0);
        x.refine(3, 4);
        Expect.answers("the hole", x.evaluated(), 1);
        x.refine(0, 0);
        Expect.answers("the hole, the leaf", x.evaluated(), 2);
        x.refine(0, 4);
        Expect.answers("the hole, the leaf, the node", x.evaluated(), 3);
        x.combine(2);
        x.refine(0, 4);
        Expect.answers("the hole, the leaf", x.evaluated(), 2);
    }

    /** "whichever came later" */
    private static void whicheverCameLater() {
        LazyTester x = Samples.trees();
        x.test(0, 0);
        x.check(0, 4);
        Expect.answers("check", x.evaluated(), 2);
        x.refine(0, 4);
        Expect.answers("refine", x.evaluated(), 3);
        x.check(0, 0);
        Expect.answers("check", x.evaluated(), 1);
        x.refine(0, 0);
        Expect.answers("refine", x.evaluated(), 2);
        Expect.answers("asked again", x.evaluated(), 2);
    }

    /** "A call that throws changes nothing" */
    private static void callsThatThrow() {
        LazyTester x = Samples.bushes();
        x.test(0, 0);
        x.check(0, 1);
        Expect.badState("check of too many", () -> x.check(0, 3));
        Expect.noSuchIndex("check of no type", () -> x.check(6, 3));
        Expect.noSuchIndex("refine of no type", () -> x.refine(6, 3) ? 1 : 0);
        Expect.badArgument("refine of no depth", () -> x.refine(0, 5) ? 1 : 0);
        x.discard();
        Expect.badState("check of no property", () -> x.check(0, 1));
        Expect.badState("refine of no property", () -> x.refine(0, 1) ? 1 : 0);
        Expect.answers("the check before", x.evaluated(), 2);
    }

    /** "but for what is said of refine()": "evaluated() and passed() are what they came to then" */
    private static void refiningThatFails() {
        LazyTester x = Samples.trees();
        x.constructor(0, 1, 0, -1, -1);
        x.same(0, 0);
        x.check(0, 1);
        Expect.refiningFails("too many", x, 0, 4);
        Expect.answers("what it came to", x.evaluated(), 2000);
        x.check(0, 1);
        Expect.answers("the check after it", x.evaluated(), 3);
    }
}
