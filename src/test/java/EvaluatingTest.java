/** Terms: which hole of a partial value a property asks for. What is shown of a refuted one tells it. */
public final class EvaluatingTest {
    private static final int HOLE = LazyTester.HOLE;

    public static void main(String[] args) {
        testGoesAlongItsPath();
        testMeetsNothing();
        sameGoesAlongPFirst();
        sameGoesAlongQThen();
        sameComparesTheFirstValueFirst();
        sameComparesFieldByField();
        onlyWhatMustBeKnown();
        aHoleIsSomething();
        oneAndTheSameHole();
        and();
        or();
        not();
        Expect.end();
    }

    private static LazyTester with(LazyTester x) {
        x.discard();
        return x;
    }

    /** "TEST goes from the value itself along its path" */
    private static void testGoesAlongItsPath() {
        LazyTester x = Samples.squares();
        x.test(0, 1);
        Expect.refuted("the value itself", x, 2, 2);
        Expect.shows("the value itself", x, 0, HOLE, HOLE);
        Expect.counts("the value itself", x, 2, 0);
        with(x).test(2, 1);
        Expect.refuted("field 1", x, 2, 2);
        Expect.shows("field 1", x, 0, HOLE, 0, HOLE, HOLE);
        Expect.counts("field 1", x, 3, 0);
        with(x).test(9, 1);
        Expect.refuted("field 0 of field 1", x, 2, 2);
        Expect.shows("field 0 of field 1", x, 0, HOLE, 0, 0, HOLE);
        Expect.counts("field 0 of field 1", x, 4, 0);
    }

    /** "false if there is nothing": what is no way is not asked for. */
    private static void testMeetsNothing() {
        LazyTester x = Samples.squares();
        x.test(3, 0);
        Expect.refuted("no field 2", x, 2, 2);
        Expect.shows("no field 2", x, 0, HOLE, HOLE);
        with(x).test(15, 0);
        Expect.refuted("no field 2, and nothing in it", x, 2, 2);
        Expect.shows("no field 2, and nothing in it", x, 0, HOLE, HOLE);
        Expect.counts("no field 2, and nothing in it", x, 2, 0);
    }

    /** "SAME first along p" */
    private static void sameGoesAlongPFirst() {
        LazyTester x = Samples.pairs();
        x.same(9, 5);
        Expect.notRefuted("field 1 is asked for first", x, 2, 1);
        Expect.counts("zeros alone", x, 4, 1);
        Expect.refuted("with ones", x, 2, 2);
        Expect.shows("there is something in field 0, and nothing in field 1", x, 0, 1, HOLE, 0);
        with(x).same(5, 6);
        Expect.refuted("field 0 is on both ways", x, 2, 3);
        Expect.shows("there is something at p and nothing at q", x, 0, 1, HOLE, HOLE);
        Expect.counts("zero passes with any field 1", x, 4, 3);
    }

    /** "then along q", before what is at p is compared. */
    private static void sameGoesAlongQThen() {
        LazyTester x = Samples.pairs();
        x.same(2, 5);
        Expect.refuted("field 0 is asked for", x, 2, 3);
        Expect.shows("field 1 is something, in field 0 there is nothing", x, 0, 0, HOLE);
        Expect.counts("it", x, 3, 0);
    }

    /** "then compares as said above, of the first value first" */
    private static void sameComparesTheFirstValueFirst() {
        LazyTester x = Samples.pairs();
        x.same(2, 1);
        Expect.refuted("field 1 is asked for first", x, 2, 2);
        Expect.shows("it is zero, and field 0 is not", x, 0, 1, HOLE, 0);
        Expect.counts("it", x, 5, 1);
        with(x).same(1, 2);
        Expect.refuted("field 0 is asked for first", x, 2, 2);
        Expect.shows("it is zero, and field 1 is not", x, 0, 0, 1, HOLE);
    }

    /** "field by field": type 3 is a unit in a pair (type 4) with a unit, so that the first fields of 1 and 4 differ. */
    private static void sameComparesFieldByField() {
        LazyTester x = new LazyTester();
        x.constructor(0, 0, -1, -1, -1);
        x.constructor(1, 2, 0, 0, -1);
        x.constructor(3, 1, 0, -1, -1);
        x.constructor(4, 2, 3, 0, -1);
        x.constructor(2, 2, 1, 4, -1);
        x.same(1, 2);
        Expect.refuted("the first fields of both", x, 2, 4);
        Expect.shows("no second field is asked for", x, 0, 0, 0, HOLE, 0, 0, HOLE, HOLE);
        Expect.counts("it", x, 6, 0);
        LazyTester y = Samples.squares();
        y.same(1, 2);
        Expect.refuted("all fields in turn", y, 2, 2);
        Expect.shows("the last one differs", y, 0, 0, 0, 0, 0, 0, 1);
        Expect.counts("it", y, 9, 1);
    }

    /** "The first hole that one comes to so, and must know the constructor of, is asked for" */
    private static void onlyWhatMustBeKnown() {
        LazyTester x = Samples.pairs();
        x.same(3, 1);
        Expect.refuted("nothing at p, a hole at q", x, 2, 3);
        Expect.shows("q is not asked for", x, 0, HOLE, HOLE);
        Expect.counts("nothing at p, a hole at q", x, 2, 0);
        with(x).same(1, 3);
        Expect.refuted("a hole at p, nothing at q", x, 2, 3);
        Expect.shows("p is not asked for", x, 0, HOLE, HOLE);
        Expect.counts("a hole at p, nothing at q", x, 2, 0);
        with(x).same(3, 7);
        Expect.notRefuted("nothing at both, once it is known", x, 2, 3);
        Expect.counts("field 0 is asked for", x, 4, 9);
    }

    /** "SAME p, q: there is nothing at p and at q, or something at both": a hole is something, whatever it may become. */
    private static void aHoleIsSomething() {
        int[][] holeAndNothing = {{1, 3}, {3, 1}, {2, 15}, {15, 2}};
        for (int[] paths : holeAndNothing) {
            LazyTester x = Samples.pairs();
            x.same(paths[0], paths[1]);
            x.combine(2);
            String property = "NOT SAME " + paths[0] + ", " + paths[1];
            Expect.notRefuted(property, x, 2, 3);
            Expect.counts(property + " passes with two holes", x, 2, 9);
        }
        LazyTester y = Samples.empties();
        y.same(2, 3);
        Expect.notRefuted("false, but the hole has no value", y, 1, 4);
        Expect.counts("the hole is not asked for", y, 2, 0);
    }

    /** "(two holes at p and q that are one and the same are asked for too)" */
    private static void oneAndTheSameHole() {
        LazyTester x = Samples.lists();
        x.same(0, 0);
        Expect.notRefuted("the value itself", x, 0, 0);
        Expect.counts("false and true", x, 3, 2);
        with(x).same(1, 1);
        Expect.notRefuted("field 0", x, 1, 1);
        Expect.counts("the hole, the empty list, a list, its two heads", x, 5, 3);
    }

    /** "AND: x; if that is not true, it is that (false, or the hole); otherwise y." */
    private static void and() {
        LazyTester x = Samples.squares();
        x.test(2, 1);
        x.test(1, 1);
        x.combine(0);
        Expect.refuted("false AND a hole", x, 1, 1);
        Expect.shows("y is not asked for", x, 0, HOLE, 0);
        Expect.counts("x first", x, 3, 0);
        with(x).test(2, 0);
        x.test(1, 1);
        x.combine(0);
        Expect.refuted("true AND a hole", x, 1, 1);
        Expect.shows("y is asked for", x, 0, 0, 0);
        Expect.counts("then y", x, 4, 0);
    }

    /** "OR: x; if that is not false, it is that; otherwise y." */
    private static void or() {
        LazyTester x = Samples.squares();
        x.test(2, 0);
        x.test(1, 0);
        x.combine(1);
        Expect.refuted("false OR a hole", x, 1, 1);
        Expect.shows("then y", x, 0, 1, 1);
        Expect.counts("for true, y is not asked for", x, 6, 3);
    }

    /** "NOT: x, and false for true and true for false", a hole for a hole. */
    private static void not() {
        LazyTester x = Samples.squares();
        x.test(2, 0);
        x.combine(2);
        Expect.refuted("NOT a hole", x, 1, 1);
        Expect.shows("it is asked for", x, 0, HOLE, 0);
        Expect.counts("it is asked for", x, 3, 0);
        with(x).test(2, 2);
        x.combine(2);
        Expect.notRefuted("NOT false", x, 1, 1);
        Expect.counts("NOT false", x, 4, 4);
    }
}
