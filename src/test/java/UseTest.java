/** How long an object is used: "An object is used for at most 512 calls after it has been made". */
public final class UseTest {
    private static final int CALLS = 512;

    public static void main(String[] args) {
        longestRefinings();
        longestChecks();
        pilesFilledAgain();
        refusedCalls();
        Expect.end();
    }

    private static void longestRefinings() {
        LazyTester x = Samples.bushes();
        x.same(0, 0);
        for (int call = 6; call <= CALLS - 2; call++) {
            Expect.refiningFails("call " + call, x, 0, 4);
        }
        Expect.answers("call 511, evaluated", x.evaluated(), 2000);
        Expect.answers("call 512, passed", x.passed(), 467);
    }

    private static void longestChecks() {
        LazyTester x = Samples.trees();
        x.same(0, 0);
        for (int call = 4; call <= CALLS - 2; call++) {
            Expect.answers("call " + call, x.check(0, 4), LazyTester.NONE);
        }
        Expect.answers("call 511, evaluated", x.evaluated(), 677);
        Expect.answers("call 512, show", x.show(0, 4, 676), 31);
    }

    private static void pilesFilledAgain() {
        LazyTester x = new LazyTester();
        int call = 0;
        for (; call + 21 < CALLS; call += 21) {
            for (int n = 1; n <= 20; n++) {
                Expect.answers("call " + (call + n), x.test(0, 0), n);
            }
            x.discard();
        }
        for (; call < CALLS - 1; call++) {
            x.discard();
        }
        Expect.answers("call 512", x.same(0, 0), 1);
    }

    private static void refusedCalls() {
        LazyTester x = Samples.trees();
        for (int call = 3; call < CALLS; call++) {
            Expect.noSuchIndex("call " + call, () -> x.constructor(6, 0, -1, -1, -1));
        }
        Expect.answers("call 512", x.count(0, 4), 677);
    }
}
