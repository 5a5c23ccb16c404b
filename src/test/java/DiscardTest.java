/** Promise 11. */
public final class DiscardTest {
    public static void main(String[] args) {
        LazyTester x = Samples.trees();
        x.discard();
        Expect.answers("after discarding nothing", x.test(0, 0), 1);
        x.check(0, 1);
        x.discard();
        Expect.badState("nothing to check", () -> x.check(0, 1));
        Expect.badState("nothing to refine", () -> x.refine(0, 1) ? 1 : 0);
        Expect.badState("nothing to combine", () -> x.combine(2));
        Expect.counts("what was counted stays", x, 2, 1);
        Expect.shows("what was shown stays", x, 1, 0, 0);
        Expect.answers("the types stay", x.count(0, 4), 677);
        for (int round = 0; round < 3; round++) {
            for (int n = 1; n <= 20; n++) {
                Expect.answers("twenty again", x.test(0, 0), n);
            }
            Expect.badState("no more", () -> x.test(0, 0));
            x.discard();
        }
        Expect.end();
    }
}
