/** Promise 8. */
public final class TestPropertyTest {
    public static void main(String[] args) {
        paths();
        wrongArguments();
        atMostTwenty();
        meaning();
        Expect.end();
    }

    /** A path is a number whose digits to base 4 are not 0; with 4 steps, there are 1 + 3 + 9 + 27 + 81. */
    private static void paths() {
        int found = 0;
        for (int p = -300; p < 5000; p++) {
            LazyTester x = new LazyTester();
            boolean path = p == 0 || p > 0 && p < 256 && !Integer.toString(p, 4).contains("0");
            int at = p;
            if (path) {
                found++;
                Expect.answers("test(" + p + ", 0)", x.test(p, 0), 1);
            } else {
                Expect.badArgument("test(" + p + ", 0)", () -> x.test(at, 0));
            }
        }
        Expect.answers("paths", found, 121);
    }

    private static void wrongArguments() {
        LazyTester x = new LazyTester();
        Expect.badArgument("c -1", () -> x.test(0, -1));
        Expect.badArgument("c 4", () -> x.test(0, 4));
        Expect.badArgument("the greatest p", () -> x.test(Integer.MAX_VALUE, 0));
        Expect.badArgument("the least p", () -> x.test(Integer.MIN_VALUE, 0));
        Expect.answers("nothing was put there", x.test(0, 3), 1);
    }

    private static void atMostTwenty() {
        LazyTester x = new LazyTester();
        for (int n = 1; n <= 20; n++) {
            Expect.answers("property", x.test(n % 4, n % 4), n);
        }
        Expect.badState("the 21st", () -> x.test(0, 0));
        Expect.badArgument("a wrong path first", () -> x.test(4, 0));
        Expect.badArgument("a wrong constructor first", () -> x.test(0, 4));
    }

    private static void meaning() {
        LazyTester x = Samples.lists();
        x.test(6, 0);
        Expect.answers("nothing at field 1 of field 0 of the empty list", x.check(1, 3), 0);
        x.test(10, 1);
        x.combine(2);
        Expect.answers("the first list of three", x.check(1, 3), 3);
        Expect.shows("it", x, 1, 0, 1, 0, 1, 0, 0);
        LazyTester y = Samples.trees();
        y.test(170, 0);
        y.combine(2);
        Expect.answers("four steps: field 1 four times", y.check(0, 4), 4);
        Expect.shows("the first tree with these", y, 1, 0, 1, 0, 1, 0, 1, 0, 0);
        LazyTester z = Samples.pairs();
        z.test(3, 0);
        z.combine(2);
        Expect.answers("a field 2 there never is", z.check(2, 3), LazyTester.NONE);
    }
}
