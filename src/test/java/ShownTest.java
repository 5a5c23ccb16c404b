/** Promise 7. */
public final class ShownTest {
    public static void main(String[] args) {
        LazyTester x = Samples.trees();
        Expect.answers("before anything is shown", x.shown(0), LazyTester.NONE);
        x.show(0, 4, 676);
        Expect.answers("the last place", x.shown(30), 0);
        Expect.answers("behind it", x.shown(31), LazyTester.NONE);
        x.show(0, 1, 1);
        Expect.shows("shorter than before", x, 1, 0, 0);
        Expect.answers("the greatest j", x.shown(Integer.MAX_VALUE), LazyTester.NONE);
        Expect.answers("the least j", x.shown(Integer.MIN_VALUE), LazyTester.NONE);
        x.constructor(0, 0, -1, -1, -1);
        x.test(0, 0);
        x.discard();
        Expect.shows("other calls leave it", x, 1, 0, 0);
        x.test(0, 0);
        x.refine(0, 2);
        Expect.shows("holes", x, 1, LazyTester.HOLE, LazyTester.HOLE);
        widest();
        Expect.end();
    }

    private static void widest() {
        LazyTester x = new LazyTester();
        for (int type = 0; type < 4; type++) {
            x.constructor(type, 3, type + 1, type + 1, type + 1);
        }
        x.constructor(4, 0, -1, -1, -1);
        Expect.answers("the widest value", x.show(0, 4, 0), 121);
        Expect.answers("its end", x.shown(120), 0);
        Expect.answers("behind its end", x.shown(121), LazyTester.NONE);
    }
}
