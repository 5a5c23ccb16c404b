/** Promise 10. */
public final class CombineTest {
    public static void main(String[] args) {
        heights();
        truthTables();
        takesTheTopmost();
        wrongArguments();
        atMostTwenty();
        Expect.end();
    }

    private static void heights() {
        LazyTester x = new LazyTester();
        x.test(0, 0);
        x.test(0, 1);
        x.test(0, 2);
        Expect.answers("NOT", x.combine(2), 3);
        Expect.answers("AND", x.combine(0), 2);
        Expect.answers("OR", x.combine(1), 1);
        Expect.answers("NOT of the only one", x.combine(2), 1);
    }

    /** On a type with one value of constructor 0: TEST 0, 0 is true, TEST 0, 1 false. */
    private static void truthTables() {
        for (int x = 0; x < 2; x++) {
            for (int y = 0; y < 2; y++) {
                Expect.answers(x + " AND " + y, truth(x, y, 0), x & y);
                Expect.answers(x + " OR " + y, truth(x, y, 1), x | y);
            }
            Expect.answers("NOT " + x, truth(0, x, 2), 1 - x);
        }
    }

    private static int truth(int x, int y, int what) {
        LazyTester t = new LazyTester();
        t.constructor(0, 0, -1, -1, -1);
        t.test(0, 1 - x);
        t.test(0, 1 - y);
        t.combine(what);
        int checked = t.check(0, 0) == LazyTester.NONE ? 1 : 0;
        int refined = t.refine(0, 0) ? 1 : 0;
        Expect.answers("check and refine agree", refined, checked);
        return checked;
    }

    private static void takesTheTopmost() {
        LazyTester x = Samples.lists();
        x.test(0, 1);
        x.test(0, 0);
        x.combine(2);
        x.test(0, 0);
        x.combine(1);
        Expect.answers("all are empty or not", x.check(1, 2), LazyTester.NONE);
        x.combine(0);
        Expect.answers("what lay below is there again", x.check(1, 2), 0);
    }

    private static void wrongArguments() {
        LazyTester x = new LazyTester();
        Expect.badArgument("what -1", () -> x.combine(-1));
        Expect.badArgument("what 3", () -> x.combine(3));
        for (int what = 0; what <= 2; what++) {
            int w = what;
            Expect.badState("nothing to combine", () -> x.combine(w));
        }
        x.test(0, 0);
        Expect.badState("AND of one", () -> x.combine(0));
        Expect.badState("OR of one", () -> x.combine(1));
        Expect.answers("nothing was taken", x.test(0, 0), 2);
    }

    private static void atMostTwenty() {
        LazyTester x = Samples.trees();
        x.test(0, 0);
        for (int n = 2; n <= 20; n++) {
            Expect.answers("NOT", x.combine(2), 1);
        }
        Expect.badState("the 21st, by NOT", () -> x.combine(2));
        Expect.badState("the 21st, by TEST", () -> x.test(0, 0));
        Expect.badState("the 21st, by SAME", () -> x.same(0, 0));
        Expect.badArgument("what is tested first", () -> x.combine(3));
        Expect.answers("19 times NOT", x.check(0, 1), 0);
        LazyTester y = new LazyTester();
        for (int n = 0; n < 10; n++) {
            y.test(0, 0);
        }
        for (int n = 0; n < 9; n++) {
            y.combine(n % 2);
        }
        Expect.answers("the 20th", y.combine(2), 1);
        Expect.badState("the 21st", () -> y.combine(2));
    }
}
