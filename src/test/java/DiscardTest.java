/** Promise 11: "The pile becomes empty." */
public final class DiscardTest {
    public static void main(String[] args) {
        ofAnEmptyPile();
        ofAPile();
        ofAFullPile();
        Expect.end();
    }

    private static void ofAnEmptyPile() {
        LazyTester x = new LazyTester();
        x.discard();
        x.discard();
        Expect.badState("it is empty", () -> x.combine(2));
        Expect.answers("the first", x.test(0, 0), 1);
    }

    private static void ofAPile() {
        LazyTester x = Samples.trees();
        x.test(0, 0);
        x.test(0, 0);
        x.check(0, 1);
        x.discard();
        Expect.badState("nothing to check", () -> x.check(0, 1));
        Expect.badState("nothing to refine", () -> x.refine(0, 1) ? 1 : 0);
        Expect.badState("nothing to combine", () -> x.combine(2));
        Expect.counts("what was counted stays", x, 2, 1);
        Expect.shows("what was shown stays", x, 1, 0, 0);
        Expect.answers("the types stay", x.count(0, 4), 677);
        Expect.answers("the first", x.same(0, 0), 1);
    }

    private static void ofAFullPile() {
        LazyTester x = new LazyTester();
        for (int round = 0; round < 3; round++) {
            for (int n = 1; n <= 20; n++) {
                Expect.answers("twenty again", x.test(0, 0), n);
            }
            Expect.badState("no more", () -> x.test(0, 0));
            x.discard();
        }
    }
}
