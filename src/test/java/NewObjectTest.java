/** Promise 1. */
public final class NewObjectTest {
    public static void main(String[] args) {
        LazyTester x = new LazyTester();
        for (int type = 0; type < 6; type++) {
            for (int depth = 0; depth <= 4; depth++) {
                Expect.answers("count", x.count(type, depth), 0);
            }
            for (int size = 1; size <= 12; size++) {
                Expect.answers("sized", x.sized(type, size), 0);
            }
        }
        Expect.shows("new", x);
        Expect.counts("new", x, 0, 0);
        Expect.badState("check on an empty pile", () -> x.check(0, 0));
        Expect.badState("refine on an empty pile", () -> x.refine(0, 0) ? 1 : 0);
        Expect.badState("NOT on an empty pile", () -> x.combine(2));
        Expect.answers("the first property", x.test(0, 0), 1);
        Expect.answers("the first constructor", x.constructor(5, 0, -1, -1, -1), 0);
        Expect.answers("another object has none of it", new LazyTester().count(5, 0), 0);
        Expect.end();
    }
}
