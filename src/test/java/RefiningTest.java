/** Terms: refining. */
public final class RefiningTest {
    private static final int HOLE = LazyTester.HOLE;

    public static void main(String[] args) {
        beginsWithAHole();
        passes();
        refutedWithoutHoles();
        notRefutedIfAHoleHasNoValue();
        everyHole();
        valuesOfOneDepthLessForEachStep();
        eachConstructorInOrder();
        withoutFieldsOrAboveTheDepth();
        untilItIsRefuted();
        aHoleAgain();
        twoThousandEvaluations();
        refutedByThe2000th();
        refutedByThe2001st();
        Expect.end();
    }

    /** "REFINING, for a type and a depth d, begins with a hole of that type." */
    private static void beginsWithAHole() {
        LazyTester x = Samples.lists();
        x.test(0, 0);
        Expect.notRefuted("of a type without constructors", x, 4, 3);
        Expect.counts("the hole alone", x, 1, 0);
        Expect.notRefuted("of type 1, depth 0", x, 1, 0);
        Expect.counts("the hole, the empty list", x, 2, 1);
    }

    /** "If it is true, it PASSES.", and refining goes on. */
    private static void passes() {
        LazyTester x = Samples.lists();
        x.test(0, 0);
        x.test(0, 1);
        x.combine(1);
        Expect.notRefuted("both constructors", x, 1, 4);
        Expect.counts("the empty list, and 30 others at once", x, 3, 31);
    }

    /** "for every hole that it has": it may have none. */
    private static void refutedWithoutHoles() {
        LazyTester x = Samples.trees();
        x.test(0, 1);
        Expect.refuted("the leaf", x, 0, 0);
        Expect.shows("the leaf", x, 0);
    }

    /** "If it is false, and for every hole that it has .. there is a value of its type": here there is none. */
    private static void notRefutedIfAHoleHasNoValue() {
        LazyTester x = Samples.empties();
        x.test(0, 1);
        Expect.notRefuted("false, but there is no such value", x, 1, 4);
        Expect.counts("it", x, 2, 0);
        Expect.shows("nothing", x);
        x.discard();
        x.test(0, 0);
        Expect.notRefuted("true", x, 1, 4);
        Expect.counts("of no value", x, 2, 0);
    }

    /** "for every hole that it has": one without a value, in whichever place, is enough, and refining goes on. */
    private static void everyHole() {
        for (int empty = 0; empty <= 3; empty++) {
            LazyTester x = Samples.empties();
            x.constructor(3, 3, empty == 0 ? 0 : 2, empty == 1 ? 0 : 2, empty == 2 ? 0 : 2);
            x.constructor(3, 0, -1, -1, -1);
            x.test(0, 2);
            Expect.refuted("without values in field " + empty, x, 3, 4);
            if (empty <= 2) {
                Expect.shows("the next constructor", x, 1);
                Expect.counts("the next constructor", x, 3, 0);
            } else {
                Expect.shows("all have values", x, 0, HOLE, HOLE, HOLE);
                Expect.counts("all have values", x, 2, 0);
            }
        }
    }

    /** "of height h, there is a value of its type of depth d - h or less": type 2 has values of depth 1 or more. */
    private static void valuesOfOneDepthLessForEachStep() {
        LazyTester x = Samples.pairs();
        x.constructor(3, 1, 2, -1, -1);
        x.constructor(4, 1, 3, -1, -1);
        x.test(0, 1);
        Expect.notRefuted("height 1, d 0", x, 3, 0);
        Expect.notRefuted("height 1, d 1: depth 0 is too little", x, 3, 1);
        Expect.refuted("height 1, d 2: depth 1 is enough", x, 3, 2);
        Expect.shows("height 1", x, 0, HOLE);
        x.test(1, 1);
        Expect.notRefuted("height 2, d 2: depth 0 is too little", x, 4, 2);
        Expect.refuted("height 2, d 3: depth 1 is enough", x, 4, 3);
        Expect.shows("height 2", x, 0, 0, HOLE);
    }

    /** "for each constructor of its type, in order" */
    private static void eachConstructorInOrder() {
        LazyTester x = new LazyTester();
        for (int c = 0; c < 4; c++) {
            x.constructor(0, 0, -1, -1, -1);
        }
        for (int c = 0; c < 4; c++) {
            x.discard();
            x.test(0, c);
            x.combine(2);
            Expect.refuted("constructor " + c, x, 0, 0);
            Expect.shows("constructor " + c, x, c);
            Expect.counts("constructor " + c, x, c + 2, c);
        }
    }

    /** "if it has no fields or h is less than d" */
    private static void withoutFieldsOrAboveTheDepth() {
        LazyTester x = Samples.pairs();
        x.same(0, 0);
        for (int depth = 0; depth <= 4; depth++) {
            Expect.notRefuted("numbers to " + depth, x, 0, depth);
            Expect.counts("each hole, each number", x, 2 * depth + 2, depth + 1);
        }
        x.discard();
        x.test(85, 0);
        x.combine(2);
        Expect.refuted("four steps", x, 0, 4);
        Expect.shows("number 4", x, 1, 1, 1, 1, 0);
        Expect.notRefuted("not of depth 3", x, 0, 3);
        LazyTester y = new LazyTester();
        y.constructor(0, 1, 0, -1, -1);
        y.constructor(0, 0, -1, -1, -1);
        y.test(0, 0);
        Expect.refuted("one with fields before one without, d 0", y, 0, 0);
        Expect.shows("the one without", y, 1);
        Expect.counts("the one without", y, 2, 0);
        Expect.refuted("d 1", y, 0, 1);
        Expect.counts("both", y, 3, 1);
    }

    /** "and refining goes on with this, until the property is refuted" */
    private static void untilItIsRefuted() {
        LazyTester x = Samples.lists();
        x.test(0, 0);
        x.test(1, 0);
        x.combine(1);
        Expect.refuted("a head that is true", x, 1, 2);
        Expect.shows("a list of which the head is known", x, 1, 1, HOLE);
        Expect.counts("it", x, 5, 4);
        x.discard();
        x.test(0, 1);
        Expect.refuted("by the first constructor", x, 1, 2);
        Expect.shows("by the first constructor", x, 0);
        Expect.counts("the second one is not tried", x, 2, 0);
    }

    /** "then it is a hole again": field 1 has been both while field 0 was false; for true it is not asked for. */
    private static void aHoleAgain() {
        LazyTester x = Samples.squares();
        x.test(1, 0);
        x.same(2, 2);
        x.combine(0);
        Expect.refuted("field 0 is true", x, 1, 1);
        Expect.shows("field 1 is a hole", x, 0, 1, HOLE);
        Expect.counts("it", x, 6, 2);
    }

    /**
     * "If after 2000 evaluations another one comes, refining FAILS." Types 0 .. 3 have 1 .. 4 values.
     * Below a hole of type 4 that is asked for there are (1 + 1 + 2) + (1 + 1 + 4 + 8) = 18
     * evaluations, of which 10 know all of it; below one of type 5, 1 + 18 + 10 * 18 + 100 * 18 = 1999.
     */
    private static LazyTester twoThousand(boolean oneBefore) {
        LazyTester x = new LazyTester();
        for (int type = 0; type < 4; type++) {
            for (int c = 0; c <= type; c++) {
                x.constructor(type, 0, -1, -1, -1);
            }
        }
        x.constructor(4, 2, 0, 1, -1);
        x.constructor(4, 3, 0, 3, 1);
        if (oneBefore) {
            x.constructor(5, 0, -1, -1, -1);
        }
        x.constructor(5, 3, 4, 4, 4);
        x.show(2, 0, 2);
        return x;
    }

    private static void twoThousandEvaluations() {
        LazyTester x = twoThousand(false);
        x.same(0, 0);
        Expect.notRefuted("2000 are not too many", x, 5, 2);
        Expect.counts("2000", x, 2000, 1000);
        x.constructor(5, 0, -1, -1, -1);
        Expect.refiningFails("2001 are", x, 5, 2);
        Expect.counts("2001", x, 2000, 1000);
        x.test(0, 0);
        Expect.refuted("the next is as if nothing had been", x, 5, 2);
        Expect.shows("the last constructor", x, 1);
        Expect.counts("the last constructor", x, 3, 1000);
    }

    /** SAME 0, 0 asks for all; then it is false of the last value alone. */
    private static void allButTheLast(LazyTester x) {
        x.same(0, 0);
        x.test(6, 3);
        int[][] others = {{7, 1}, {10, 3}, {11, 1}, {14, 3}, {15, 1}};
        for (int[] other : others) {
            x.test(other[0], other[1]);
            x.combine(0);
        }
        x.combine(2);
        x.combine(0);
    }

    private static void refutedByThe2000th() {
        LazyTester x = twoThousand(false);
        allButTheLast(x);
        Expect.refuted("no other one comes", x, 5, 2);
        Expect.counts("the last value", x, 2000, 999);
        Expect.shows("the last value", x, 0, 1, 0, 3, 1, 1, 0, 3, 1, 1, 0, 3, 1);
    }

    private static void refutedByThe2001st() {
        LazyTester x = twoThousand(true);
        allButTheLast(x);
        Expect.refiningFails("the last value would be another one", x, 5, 2);
        Expect.counts("all but the last value", x, 2000, 1000);
        Expect.shows("what was shown stays", x, 2);
    }
}
