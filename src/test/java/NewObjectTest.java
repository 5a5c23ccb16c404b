/** Promise 1. */
public final class NewObjectTest {
    public static void main(String[] args) {
        noConstructors();
        anEmptyPile();
        nothingIsShown();
        nothingIsCounted();
        nothingIsShared();
        Expect.end();
    }

    /** "No constructors" */
    private static void noConstructors() {
        LazyTester x = new LazyTester();
        for (int type = 0; type < 6; type++) {
            for (int depth = 0; depth <= 4; depth++) {
                Expect.answers("count", x.count(type, depth), 0);
            }
            for (int size = 1; size <= 12; size++) {
                Expect.answers("sized", x.sized(type, size), 0);
            }
            Expect.answers("the first constructor", x.constructor(type, 1, type, -1, -1), 0);
        }
    }

    /** "an empty pile" */
    private static void anEmptyPile() {
        LazyTester x = new LazyTester();
        Expect.badState("check", () -> x.check(0, 0));
        Expect.badState("refine", () -> x.refine(0, 0) ? 1 : 0);
        Expect.badState("NOT", () -> x.combine(2));
        Expect.answers("the first property", x.test(0, 0), 1);
        for (int n = 2; n <= 20; n++) {
            x.test(0, 0);
        }
        Expect.badState("20 have been made", () -> x.test(0, 0));
    }

    /** "nothing is shown" */
    private static void nothingIsShown() {
        LazyTester x = new LazyTester();
        for (int j = -2; j <= 130; j++) {
            Expect.answers("shown(" + j + ")", x.shown(j), LazyTester.NONE);
        }
    }

    /** "0 if there was none", of evaluated() and of passed(). */
    private static void nothingIsCounted() {
        Expect.counts("new", new LazyTester(), 0, 0);
    }

    private static void nothingIsShared() {
        String due = Seen.of(new LazyTester());
        LazyTester used = Samples.trees();
        used.test(0, 0);
        used.check(0, 4);
        LazyTester x = new LazyTester();
        Expect.texts("another object", Seen.of(x), due);
        Expect.answers("its first property", x.test(0, 0), 1);
    }
}
