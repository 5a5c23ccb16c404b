/** Promise 7. */
public final class ShownTest {
    public static void main(String[] args) {
        aConstructor();
        aHole();
        noneAtOtherPlaces();
        noneBeforeAnythingIsShown();
        otherCallsLeaveIt();
        Expect.end();
    }

    /** "What is shown at place j: a constructor" */
    private static void aConstructor() {
        LazyTester x = new LazyTester();
        for (int c = 0; c < 4; c++) {
            x.constructor(0, 0, -1, -1, -1);
        }
        for (int c = 0; c < 4; c++) {
            x.show(0, 0, c);
            Expect.shows("constructor " + c, x, c);
        }
        LazyTester y = Samples.widest();
        y.show(0, 4, 0);
        Expect.answers("the last place there can be", y.shown(120), 0);
        Expect.answers("behind it", y.shown(121), LazyTester.NONE);
    }

    /** "or HOLE" */
    private static void aHole() {
        LazyTester x = Samples.trees();
        x.test(0, 0);
        x.refine(0, 2);
        Expect.shows("holes", x, 1, LazyTester.HOLE, LazyTester.HOLE);
    }

    /** "NONE if there is none." */
    private static void noneAtOtherPlaces() {
        LazyTester x = Samples.trees();
        x.show(0, 4, 676);
        Expect.answers("the last place", x.shown(30), 0);
        Expect.answers("behind it", x.shown(31), LazyTester.NONE);
        x.show(0, 1, 1);
        Expect.answers("the last place of less", x.shown(2), 0);
        for (int j : new int[] {3, 4, 30, 31, 120, 121, 1 << 30, Integer.MAX_VALUE, -1, -2, Integer.MIN_VALUE}) {
            Expect.answers("shown(" + j + ")", x.shown(j), LazyTester.NONE);
        }
    }

    private static void noneBeforeAnythingIsShown() {
        LazyTester x = Samples.trees();
        x.test(0, 1);
        x.test(0, 0);
        x.check(0, 0);
        x.refine(0, 0);
        for (int j : new int[] {0, 1, 120, 121, Integer.MAX_VALUE, -1, Integer.MIN_VALUE}) {
            Expect.answers("shown(" + j + ")", x.shown(j), LazyTester.NONE);
        }
    }

    private static void otherCallsLeaveIt() {
        LazyTester x = Samples.trees();
        x.show(0, 1, 1);
        x.constructor(0, 0, -1, -1, -1);
        x.count(0, 4);
        x.sized(0, 4);
        x.test(0, 0);
        x.same(0, 0);
        x.combine(1);
        x.check(0, 1);
        x.refine(0, 1);
        x.discard();
        Expect.shows("it", x, 1, 0, 0);
    }
}
