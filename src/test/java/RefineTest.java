/** Promise 13. */
public final class RefineTest {
    private static final int HOLE = LazyTester.HOLE;

    public static void main(String[] args) {
        asksForLittle();
        rootAsAHole();
        whichHoleFirst();
        holesThatNobodyMustKnow();
        unfillableHoles();
        fieldsOnlyAboveTheDepth();
        limitOfEvaluations();
        deepestValue();
        wrongArguments();
        Expect.end();
    }

    private static void asksForLittle() {
        LazyTester x = Samples.lists();
        x.test(0, 0);
        x.test(1, 0);
        x.combine(1);
        Expect.answers("refuted", x.refine(1, 2) ? 1 : 0, 0);
        Expect.shows("a list of which the head is known", x, 1, 1, HOLE);
        Expect.counts("it", x, 5, 4);
        Expect.answers("not refuted", x.refine(1, 0) ? 1 : 0, 1);
        Expect.shows("what was shown stays", x, 1, 1, HOLE);
        Expect.counts("depth 0", x, 2, 1);
    }

    private static void rootAsAHole() {
        LazyTester x = Samples.lists();
        x.test(0, 0);
        Expect.answers("no constructors", x.refine(4, 3) ? 1 : 0, 1);
        Expect.counts("the hole alone", x, 1, 0);
        x.discard();
        x.same(0, 0);
        Expect.answers("one and the same hole is asked for", x.refine(0, 0) ? 1 : 0, 1);
        Expect.counts("three evaluations", x, 3, 2);
    }

    private static void whichHoleFirst() {
        LazyTester x = Samples.pairs();
        x.same(2, 1);
        Expect.answers("the one at p first", x.refine(2, 2) ? 1 : 0, 0);
        Expect.shows("field 1 is zero, field 0 is not", x, 0, 1, HOLE, 0);
        Expect.counts("it", x, 5, 1);
        x.discard();
        x.test(1, 1);
        x.test(2, 1);
        x.combine(0);
        Expect.answers("x AND y: x first", x.refine(2, 2) ? 1 : 0, 0);
        Expect.shows("y is not asked for", x, 0, 0, HOLE);
        Expect.counts("it", x, 3, 0);
        x.discard();
        x.test(2, 0);
        x.test(1, 0);
        x.combine(1);
        Expect.answers("x OR y: x first", x.refine(2, 2) ? 1 : 0, 0);
        Expect.shows("then y", x, 0, 1, HOLE, 1, HOLE);
        Expect.counts("it", x, 6, 3);
        x.discard();
        x.same(5, 6);
        Expect.answers("on the way along p", x.refine(2, 3) ? 1 : 0, 0);
        Expect.shows("a field 0, but no field 1", x, 0, 1, HOLE, HOLE);
        x.discard();
        x.same(2, 5);
        Expect.answers("on the way along q, before what is at p", x.refine(2, 3) ? 1 : 0, 0);
        Expect.shows("field 0 is zero; field 1 is something", x, 0, 0, HOLE);
        Expect.counts("it", x, 3, 0);
    }

    private static void holesThatNobodyMustKnow() {
        LazyTester x = Samples.pairs();
        x.same(3, 1);
        Expect.answers("nothing at p, a hole at q", x.refine(2, 3) ? 1 : 0, 0);
        Expect.shows("q is not asked for", x, 0, HOLE, HOLE);
        x.discard();
        x.same(1, 3);
        Expect.answers("a hole at p, nothing at q", x.refine(2, 3) ? 1 : 0, 0);
        Expect.shows("p is not asked for", x, 0, HOLE, HOLE);
        Expect.counts("it", x, 2, 0);
        x.discard();
        x.same(3, 7);
        Expect.answers("nothing at both, once it is known", x.refine(2, 3) ? 1 : 0, 1);
        Expect.counts("field 0 is asked for", x, 4, 9);
    }

    private static void unfillableHoles() {
        LazyTester x = Samples.empties();
        x.test(0, 1);
        Expect.answers("false, but there is no such value", x.refine(1, 4) ? 1 : 0, 1);
        Expect.counts("it", x, 2, 0);
        Expect.shows("nothing", x);
        x.discard();
        x.test(0, 0);
        Expect.answers("true", x.refine(1, 4) ? 1 : 0, 1);
        Expect.counts("of no value", x, 2, 0);
        LazyTester y = Samples.pairs();
        y.constructor(3, 1, 2, -1, -1);
        y.test(0, 1);
        Expect.answers("a pair has depth 1", y.refine(3, 1) ? 1 : 0, 1);
        Expect.answers("so that this is the least", y.refine(3, 2) ? 1 : 0, 0);
        Expect.shows("it", y, 0, HOLE);
    }

    private static void fieldsOnlyAboveTheDepth() {
        LazyTester x = Samples.pairs();
        x.same(0, 0);
        Expect.answers("numbers to 4", x.refine(0, 4) ? 1 : 0, 1);
        Expect.counts("each hole, each number", x, 10, 5);
        Expect.answers("zero alone", x.refine(0, 0) ? 1 : 0, 1);
        Expect.counts("zero alone", x, 2, 1);
        x.discard();
        x.test(85, 0);
        x.combine(2);
        Expect.answers("four steps", x.refine(0, 4) ? 1 : 0, 0);
        Expect.shows("number 4", x, 1, 1, 1, 1, 0);
        Expect.answers("not of depth 3", x.refine(0, 3) ? 1 : 0, 1);
    }

    private static void limitOfEvaluations() {
        LazyTester x = Samples.bushes();
        x.show(0, 1, 1);
        x.same(0, 0);
        Expect.badState("too many", () -> x.refine(0, 3) ? 1 : 0);
        Expect.counts("2000 of them", x, 2000, 467);
        Expect.shows("what was shown stays", x, 1, 0, 0, 0);
        Expect.answers("depth 2", x.refine(0, 2) ? 1 : 0, 1);
        Expect.answers("all passed", x.passed(), 193);
        exactlyTwoThousand();
    }

    /**
     * Types 0 .. 3 have 1 .. 4 values. Below a hole of type 4 that is asked for there are
     * (1 + 1 + 2) + (1 + 1 + 4 + 8) = 18 evaluations, of which 10 know all of it; below one of type 5,
     * 1 + 18 + 10 * 18 + 100 * 18 = 1999.
     */
    private static void exactlyTwoThousand() {
        LazyTester x = new LazyTester();
        for (int type = 0; type < 4; type++) {
            for (int c = 0; c <= type; c++) {
                x.constructor(type, 0, -1, -1, -1);
            }
        }
        x.constructor(4, 2, 0, 1, -1);
        x.constructor(4, 3, 0, 3, 1);
        x.constructor(5, 3, 4, 4, 4);
        x.same(0, 0);
        Expect.answers("2000 are not too many", x.refine(5, 2) ? 1 : 0, 1);
        Expect.counts("2000", x, 2000, 1000);
        x.constructor(5, 0, -1, -1, -1);
        Expect.badState("2001 are", () -> x.refine(5, 2) ? 1 : 0);
        Expect.counts("2001", x, 2000, 1000);
        x.test(0, 0);
        Expect.answers("the next is as if nothing had been", x.refine(5, 2) ? 1 : 0, 0);
        Expect.shows("the last constructor", x, 1);
        Expect.counts("the last constructor", x, 3, 1000);
    }

    private static void deepestValue() {
        LazyTester x = new LazyTester();
        x.constructor(0, 3, 0, 0, 0);
        x.constructor(0, 0, -1, -1, -1);
        x.same(0, 0);
        x.combine(2);
        Expect.answers("every hole filled", x.refine(0, 4) ? 1 : 0, 0);
        Expect.counts("one evaluation for each", x, 122, 0);
        Expect.answers("the first", x.shown(0), 0);
        Expect.answers("the last", x.shown(120), 1);
        Expect.answers("behind it", x.shown(121), LazyTester.NONE);
    }

    private static void wrongArguments() {
        LazyTester x = Samples.trees();
        Expect.noSuchIndex("type before depth and pile", () -> x.refine(6, 5) ? 1 : 0);
        Expect.badArgument("depth before pile", () -> x.refine(0, 5) ? 1 : 0);
        Expect.badState("an empty pile", () -> x.refine(0, 0) ? 1 : 0);
        x.test(0, 0);
        x.refine(0, 1);
        Expect.noSuchIndex("type -1", () -> x.refine(-1, 0) ? 1 : 0);
        Expect.badArgument("depth -1", () -> x.refine(0, -1) ? 1 : 0);
        Expect.counts("as before", x, 3, 1);
        Expect.shows("as before", x, 1, HOLE, HOLE);
    }
}
