/** Promise 13; what refining is, RefiningTest tests. */
public final class RefineTest {
    private static final int HOLE = LazyTester.HOLE;

    public static void main(String[] args) {
        forTheTopmost();
        trueIfNotRefuted();
        falseIfRefuted();
        widestValue();
        moreThanThousandValues();
        noSuchType();
        noSuchDepth();
        emptyPile();
        fails();
        Expect.end();
    }

    /** "Refines for the topmost property." */
    private static void forTheTopmost() {
        LazyTester x = Samples.trees();
        x.test(0, 3);
        x.test(0, 1);
        Expect.refuted("the leaf", x, 0, 1);
        Expect.counts("the leaf", x, 2, 0);
        x.same(0, 0);
        Expect.notRefuted("the ones below are not asked for", x, 0, 1);
    }

    /** "Answers true if it was not refuted (what was shown stays then)" */
    private static void trueIfNotRefuted() {
        LazyTester x = Samples.trees();
        x.same(0, 0);
        Expect.notRefuted("nothing was shown", x, 0, 2);
        Expect.shows("nothing is shown", x);
        x.show(0, 1, 1);
        Expect.notRefuted("a value was shown", x, 0, 2);
        Expect.shows("what was shown stays", x, 1, 0, 0);
        Expect.notRefuted("no values", x, 3, 2);
        Expect.shows("what was shown stays", x, 1, 0, 0);
    }

    /** "false if it was: then the partial value is shown." */
    private static void falseIfRefuted() {
        LazyTester x = Samples.trees();
        x.show(0, 2, 4);
        x.test(0, 0);
        x.test(1, 1);
        x.combine(1);
        Expect.refuted("a node", x, 0, 2);
        Expect.shows("less than was shown before", x, 1, 0, HOLE);
        x.test(1, 0);
        x.combine(2);
        x.test(2, 0);
        x.combine(1);
        Expect.refuted("another", x, 0, 2);
        Expect.shows("more than was shown before", x, 1, 0, 1, HOLE, HOLE);
    }

    private static void widestValue() {
        LazyTester x = Samples.widest();
        x.same(0, 0);
        x.combine(2);
        Expect.refuted("every hole is filled", x, 0, 4);
        Expect.counts("one evaluation for each", x, 122, 0);
        for (int j = 0; j < 121; j++) {
            Expect.answers("shown", x.shown(j), 0);
        }
        Expect.answers("behind it", x.shown(121), LazyTester.NONE);
    }

    /** It is check() that says "more than 1000 values", not refine(). */
    private static void moreThanThousandValues() {
        LazyTester x = Samples.bushes();
        x.test(0, 0);
        x.combine(2);
        x.test(0, 0);
        x.combine(1);
        Expect.notRefuted("more than MANY values", x, 0, 4);
        Expect.counts("more than MANY values", x, 5, LazyTester.MANY);
    }

    /** "IndexOutOfBoundsException .. as count()" */
    private static void noSuchType() {
        LazyTester x = Samples.trees();
        x.test(0, 0);
        for (int type : new int[] {-1, 6, Integer.MIN_VALUE, Integer.MAX_VALUE}) {
            Expect.noSuchIndex("type " + type, () -> x.refine(type, 0) ? 1 : 0);
        }
        Expect.notRefuted("type 5", x, 5, 0);
    }

    /** "IllegalArgumentException as count()" */
    private static void noSuchDepth() {
        LazyTester x = Samples.trees();
        x.test(0, 0);
        for (int depth : new int[] {-1, 5, Integer.MIN_VALUE, Integer.MAX_VALUE}) {
            Expect.badArgument("depth " + depth, () -> x.refine(0, depth) ? 1 : 0);
        }
        Expect.notRefuted("depth 0", x, 0, 0);
        Expect.refuted("depth 4", x, 0, 4);
    }

    /** "IllegalStateException if the pile is empty" */
    private static void emptyPile() {
        LazyTester x = Samples.trees();
        Expect.badState("at first", () -> x.refine(0, 0) ? 1 : 0);
        Expect.badState("of a type without values", () -> x.refine(1, 0) ? 1 : 0);
        x.test(0, 0);
        Expect.notRefuted("one property", x, 0, 0);
        x.discard();
        Expect.badState("again", () -> x.refine(0, 0) ? 1 : 0);
    }

    /** "or refining fails (evaluated() and passed() are what they came to then; what was shown stays)" */
    private static void fails() {
        LazyTester x = Samples.bushes();
        x.show(0, 1, 1);
        x.same(0, 0);
        Expect.refiningFails("too many", x, 0, 3);
        Expect.counts("2000 of them", x, 2000, 467);
        Expect.shows("what was shown stays", x, 1, 0, 0, 0);
        Expect.notRefuted("depth 2", x, 0, 2);
        Expect.answers("all passed", x.passed(), 193);
        Expect.refiningFails("too many", x, 0, 3);
        Expect.counts("counted anew", x, 2000, 467);
    }
}
