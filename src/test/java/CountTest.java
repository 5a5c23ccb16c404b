/** Promise 3. */
public final class CountTest {
    public static void main(String[] args) {
        ofDepthOrLess();
        none();
        moreThanMany();
        noneTimesMany();
        manyTimesMany();
        justBelowMany();
        exactlyMany();
        manyBySum();
        noSuchType();
        noSuchDepth();
        Expect.end();
    }

    /** "How many values of depth or less a type has" */
    private static void ofDepthOrLess() {
        long[] trees = {1, 2, 5, 26, 677};
        long[] lists = {1, 3, 7, 15, 31};
        long[] pairs = {0, 1, 4, 9, 16};
        for (int depth = 0; depth <= 4; depth++) {
            Expect.answers("trees", Samples.trees().count(0, depth), trees[depth]);
            Expect.answers("lists", Samples.lists().count(1, depth), lists[depth]);
            Expect.answers("truths", Samples.lists().count(0, depth), 2);
            Expect.answers("pairs", Samples.pairs().count(2, depth), pairs[depth]);
        }
        LazyTester x = Samples.trees();
        x.constructor(0, 0, -1, -1, -1);
        Expect.answers("a constructor more", x.count(0, 2), 38);
    }

    private static void none() {
        for (int depth = 0; depth <= 4; depth++) {
            Expect.answers("none without end", Samples.empties().count(0, depth), 0);
            Expect.answers("pairs of none", Samples.empties().count(1, depth), 0);
            Expect.answers("no constructors", Samples.empties().count(5, depth), 0);
        }
    }

    /** "MANY if there are more." */
    private static void moreThanMany() {
        LazyTester x = Samples.bushes();
        Expect.answers("bushes 1", x.count(0, 1), 4);
        Expect.answers("bushes 2", x.count(0, 2), 193);
        Expect.answers("bushes 3", x.count(0, 3), 21567172);
        Expect.answers("bushes 4", x.count(0, 4), LazyTester.MANY);
    }

    /** Type 1 is a triple of two bushes and a value of type 2, which has none before it gets a constructor. */
    private static void noneTimesMany() {
        LazyTester x = Samples.bushes();
        x.constructor(1, 3, 0, 0, 2);
        x.constructor(3, 3, 2, 0, 0);
        Expect.answers("many times many times none", x.count(1, 4), 0);
        Expect.answers("none times many times many", x.count(3, 4), 0);
        x.constructor(2, 0, -1, -1, -1);
        Expect.answers("many without many", x.count(1, 3), 193L * 193);
        Expect.answers("many times one", x.count(1, 4), 465142908077584L);
    }

    /** Type 3 has 4 * (4 * (4 * 4 ^ 3) ^ 3) ^ 3 values of depth 3: more than MANY, of which type 4 has triples. */
    private static void manyTimesMany() {
        LazyTester x = new LazyTester();
        for (int c = 0; c < 4; c++) {
            x.constructor(0, 0, -1, -1, -1);
            x.constructor(1, 3, 0, 0, 0);
            x.constructor(2, 3, 1, 1, 1);
            x.constructor(3, 3, 2, 2, 2);
            x.constructor(4, 3, 3, 3, 3);
        }
        Expect.answers("depth 1", x.count(1, 1), 256);
        Expect.answers("depth 2", x.count(2, 2), 67108864);
        Expect.answers("depth 3", x.count(3, 3), LazyTester.MANY);
        Expect.answers("depth 4", x.count(4, 4), LazyTester.MANY);
        Expect.answers("a number below MANY", x.show(4, 4, LazyTester.MANY - 1), 121);
        Expect.answers("its constructor", x.shown(0), 0);
        x.constructor(5, 3, 3, 5, 3);
        Expect.answers("many times none times many", x.count(5, 4), 0);
    }

    /** "MANY if there are more": three times 2 to the 48th are not, four times are. */
    private static void justBelowMany() {
        LazyTester x = Samples.belowMany();
        Expect.answers("2 to the 48th", x.count(3, 3), 281474976710656L);
        Expect.answers("three times that", x.count(5, 4), 844424930131968L);
        Expect.answers("the last of them", x.show(5, 4, 844424930131967L), 29);
        Expect.badState("there is no other", () -> x.show(5, 4, 844424930131968L));
        x.constructor(4, 0, -1, -1, -1);
        Expect.answers("four times that", x.count(5, 4), LazyTester.MANY);
    }

    /** "MANY if there are more": it is MANY as well if there are just as many. */
    private static void exactlyMany() {
        LazyTester x = tenMillions();
        x.constructor(5, 3, 4, 4, 2);
        Expect.answers("exactly MANY", x.count(5, 4), LazyTester.MANY);
        Expect.answers("the last of them", x.show(5, 4, LazyTester.MANY - 1), 37);
        Expect.badState("there is no other", () -> x.show(5, 4, LazyTester.MANY));
        x.constructor(5, 0, -1, -1, -1);
        Expect.answers("one more", x.count(5, 4), LazyTester.MANY);
        Expect.badState("which can't be shown", () -> x.show(5, 4, LazyTester.MANY));
    }

    private static void manyBySum() {
        LazyTester x = tenMillions();
        x.constructor(5, 2, 4, 4, -1);
        x.constructor(5, 2, 4, 4, -1);
        Expect.answers("two times 10 to the 14th", x.count(5, 4), 200000000000000L);
        x.constructor(5, 3, 4, 4, 2);
        Expect.answers("more than MANY", x.count(5, 4), LazyTester.MANY);
        Expect.answers("the last of the second constructor", x.show(5, 4, 199999999999999L), 35);
        Expect.answers("the first of the third one", x.show(5, 4, 200000000000000L), 37);
        Expect.answers("its constructor", x.shown(0), 2);
    }

    /** Type 2 has 10 values, type 3 a thousand, type 4 ten millions. */
    private static LazyTester tenMillions() {
        LazyTester x = Samples.thousand();
        x.constructor(4, 3, 3, 3, 2);
        Expect.answers("ten", x.count(2, 1), 10);
        Expect.answers("a thousand", x.count(3, 2), 1000);
        Expect.answers("ten millions", x.count(4, 3), 10000000);
        return x;
    }

    /** "IndexOutOfBoundsException if there is no such type" */
    private static void noSuchType() {
        LazyTester x = Samples.trees();
        for (int type : new int[] {-1, 6, Integer.MIN_VALUE, Integer.MAX_VALUE}) {
            Expect.noSuchIndex("type " + type, () -> x.count(type, 0));
        }
        Expect.answers("type 0", x.count(0, 0), 1);
        Expect.answers("type 5", x.count(5, 0), 0);
    }

    /** "IllegalArgumentException if depth is not 0 .. 4" */
    private static void noSuchDepth() {
        LazyTester x = Samples.trees();
        for (int depth : new int[] {-1, 5, Integer.MIN_VALUE, Integer.MAX_VALUE}) {
            Expect.badArgument("depth " + depth, () -> x.count(0, depth));
        }
        Expect.answers("depth 0", x.count(0, 0), 1);
        Expect.answers("depth 4", x.count(0, 4), 677);
    }
}
