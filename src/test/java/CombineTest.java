/** Promise 10, and what AND, OR and NOT are. */
public final class CombineTest {
    public static void main(String[] args) {
        truthTables();
        takeThePlace();
        howManyLieThereThen();
        noSuchWhat();
        notAsMany();
        twentyHaveBeenMade();
        Expect.end();
    }

    /** "x AND y, x OR y, NOT x": on a type with one value of constructor 0, TEST 0, 0 is true, TEST 0, 1 false. */
    private static void truthTables() {
        for (int x = 0; x < 2; x++) {
            for (int y = 0; y < 2; y++) {
                Expect.answers(x + " AND " + y, truth(x, y, 0), x & y);
                Expect.answers(x + " OR " + y, truth(x, y, 1), x | y);
            }
            Expect.answers("NOT " + x, truth(0, x, 2), 1 - x);
            Expect.answers("NOT " + x, truth(1, x, 2), 1 - x);
        }
    }

    private static int truth(int x, int y, int what) {
        LazyTester t = new LazyTester();
        t.constructor(0, 0, -1, -1, -1);
        t.test(0, 1 - x);
        t.test(0, 1 - y);
        t.combine(what);
        int checked = t.check(0, 0) == LazyTester.NONE ? 1 : 0;
        int refined = t.refine(0, 0) ? 1 : 0;
        Expect.answers("check and refine agree", refined, checked);
        return checked;
    }

    /** "are made of the topmost ones, which they take the place of" */
    private static void takeThePlace() {
        LazyTester x = Samples.lists();
        x.test(0, 1);
        x.test(0, 0);
        x.combine(2);
        x.test(0, 0);
        x.combine(1);
        Expect.answers("all are empty or not", x.check(1, 2), LazyTester.NONE);
        x.combine(0);
        Expect.answers("what lay below is there again", x.check(1, 2), 0);
    }

    /** "Answers how many lie there then." */
    private static void howManyLieThereThen() {
        LazyTester x = new LazyTester();
        x.test(0, 0);
        x.test(0, 1);
        x.test(0, 2);
        Expect.answers("NOT", x.combine(2), 3);
        Expect.answers("AND", x.combine(0), 2);
        Expect.answers("OR", x.combine(1), 1);
        Expect.answers("NOT of the only one", x.combine(2), 1);
    }

    /** "IllegalArgumentException if what is not 0 .. 2" */
    private static void noSuchWhat() {
        LazyTester x = new LazyTester();
        x.test(0, 0);
        x.test(0, 0);
        for (int what : new int[] {-1, 3, 4, -2, Integer.MIN_VALUE, Integer.MAX_VALUE}) {
            Expect.badArgument("combine(" + what + ")", () -> x.combine(what));
        }
        Expect.answers("both lie there", x.test(0, 0), 3);
    }

    /** "IllegalStateException if there are not as many" */
    private static void notAsMany() {
        LazyTester x = new LazyTester();
        Expect.badState("AND of none", () -> x.combine(0));
        Expect.badState("OR of none", () -> x.combine(1));
        Expect.badState("NOT of none", () -> x.combine(2));
        x.test(0, 0);
        Expect.badState("AND of one", () -> x.combine(0));
        Expect.badState("OR of one", () -> x.combine(1));
        Expect.answers("NOT of one", x.combine(2), 1);
        x.test(0, 0);
        Expect.answers("AND of two", x.combine(0), 1);
        Expect.badState("now it is one", () -> x.combine(1));
        x.test(0, 0);
        Expect.answers("OR of two", x.combine(1), 1);
    }

    /** "or 20 have been made": those that combine made are counted, and those that they took the place of. */
    private static void twentyHaveBeenMade() {
        LazyTester x = Samples.trees();
        x.test(0, 0);
        for (int n = 2; n <= 20; n++) {
            Expect.answers("NOT", x.combine(2), 1);
        }
        Expect.badState("the 21st, by NOT", () -> x.combine(2));
        Expect.badState("the 21st, by TEST", () -> x.test(0, 0));
        Expect.badState("the 21st, by SAME", () -> x.same(0, 0));
        Expect.answers("19 times NOT", x.check(0, 1), 0);
        for (int what = 0; what <= 2; what++) {
            int w = what;
            LazyTester y = new LazyTester();
            for (int n = 1; n <= 20; n++) {
                y.test(0, 0);
            }
            Expect.badState("the 21st by " + w, () -> y.combine(w));
            y.discard();
            for (int n = 1; n <= 19; n++) {
                y.test(0, 0);
            }
            Expect.answers("the 20th by " + w, y.combine(w), w == 2 ? 19 : 18);
            Expect.badState("the 21st by " + w, () -> y.combine(w));
        }
    }
}
