/** Terms: "A call that throws changes nothing, but for what is said of refine(). What a call says first is tested first." */
public final class RefusedCallsTest {
    private static final Class<IndexOutOfBoundsException> INDEX = IndexOutOfBoundsException.class;
    private static final Class<IllegalArgumentException> ARGUMENT = IllegalArgumentException.class;
    private static final Class<IllegalStateException> STATE = IllegalStateException.class;

    interface Maker {
        LazyTester make();
    }

    interface CallOn {
        long answer(LazyTester x);
    }

    public static void main(String[] args) {
        constructorChangesNothing();
        showsChangeNothing();
        countsChangeNothing();
        propertiesChangeNothing();
        combineChangesNothing();
        checkAndRefineChangeNothing();
        whatIsSaidOfRefine();
        constructorTestsInOrder();
        countAndShowTestInOrder();
        sizedAndShowSizedTestInOrder();
        propertiesTestInOrder();
        checkAndRefineTestInOrder();
        Expect.end();
    }

    /** Types, full and not; a partial value shown; counts of a refine; 4 properties on the pile, of 10 made. */
    private static LazyTester used() {
        LazyTester x = Samples.bushes();
        x.constructor(1, 2, 0, 1, -1);
        x.constructor(1, 0, -1, -1, -1);
        x.test(0, 3);
        x.same(1, 2);
        x.test(2, 0);
        x.test(1, 0);
        x.combine(1);
        x.test(1, 1);
        x.combine(0);
        x.test(0, 0);
        x.test(1, 0);
        x.combine(1);
        x.refine(0, 2);
        return x;
    }

    private static LazyTester withFullPile() {
        LazyTester x = used();
        for (int n = 11; n <= 20; n++) {
            x.same(1, n % 4);
        }
        return x;
    }

    private static LazyTester withEmptyPile() {
        LazyTester x = used();
        x.discard();
        return x;
    }

    private static LazyTester withOneProperty() {
        LazyTester x = withEmptyPile();
        x.test(2, 3);
        return x;
    }

    private static void changesNothing(String name, Maker maker, Class<? extends RuntimeException> due, CallOn call) {
        LazyTester x = maker.make();
        LazyTester untouched = maker.make();
        Expect.fails(name, due, () -> call.answer(x));
        Expect.texts("after " + name, Seen.of(x), Seen.of(untouched));
        Expect.texts("after " + name, Seen.pileOf(x), Seen.pileOf(untouched));
        Expect.texts("after " + name, Seen.of(x), Seen.of(untouched));
    }

    private static void constructorChangesNothing() {
        changesNothing("constructor of no type", RefusedCallsTest::used, INDEX, x -> x.constructor(6, 0, -1, -1, -1));
        changesNothing("4 fields", RefusedCallsTest::used, ARGUMENT, x -> x.constructor(1, 4, 0, 0, 0));
        changesNothing("a of no type", RefusedCallsTest::used, INDEX, x -> x.constructor(1, 3, 6, 0, 0));
        changesNothing("b of no type", RefusedCallsTest::used, INDEX, x -> x.constructor(1, 3, 0, 6, 0));
        changesNothing("c of no type", RefusedCallsTest::used, INDEX, x -> x.constructor(1, 3, 0, 0, 6));
        changesNothing("a too much", RefusedCallsTest::used, ARGUMENT, x -> x.constructor(1, 0, 0, -1, -1));
        changesNothing("b too much", RefusedCallsTest::used, ARGUMENT, x -> x.constructor(1, 1, 0, 0, -1));
        changesNothing("c too much", RefusedCallsTest::used, ARGUMENT, x -> x.constructor(1, 2, 0, 0, 0));
        changesNothing("a fifth one", RefusedCallsTest::used, STATE, x -> x.constructor(0, 3, 1, 1, 1));
    }

    private static void countsChangeNothing() {
        changesNothing("count of no type", RefusedCallsTest::used, INDEX, x -> x.count(6, 0));
        changesNothing("count of no depth", RefusedCallsTest::used, ARGUMENT, x -> x.count(0, 5));
        changesNothing("sized of no type", RefusedCallsTest::used, INDEX, x -> x.sized(6, 1));
        changesNothing("sized of no size", RefusedCallsTest::used, ARGUMENT, x -> x.sized(0, 13));
    }

    private static void showsChangeNothing() {
        changesNothing("show of no type", RefusedCallsTest::used, INDEX, x -> x.show(6, 0, 0));
        changesNothing("show of no depth", RefusedCallsTest::used, ARGUMENT, x -> x.show(0, 5, 0));
        changesNothing("show of no number", RefusedCallsTest::used, STATE, x -> x.show(0, 2, 193));
        changesNothing("show of MANY", RefusedCallsTest::used, STATE, x -> x.show(0, 4, LazyTester.MANY));
        changesNothing("showSized of no type", RefusedCallsTest::used, INDEX, x -> x.showSized(6, 1, 0));
        changesNothing("showSized of no size", RefusedCallsTest::used, ARGUMENT, x -> x.showSized(0, 0, 0));
        changesNothing("showSized of no number", RefusedCallsTest::used, STATE, x -> x.showSized(0, 7, 27));
    }

    private static void propertiesChangeNothing() {
        changesNothing("test of no path", RefusedCallsTest::used, ARGUMENT, x -> x.test(4, 0));
        changesNothing("test of no constructor", RefusedCallsTest::used, ARGUMENT, x -> x.test(0, 4));
        changesNothing("a 21st test", RefusedCallsTest::withFullPile, STATE, x -> x.test(0, 0));
        changesNothing("same of no p", RefusedCallsTest::used, ARGUMENT, x -> x.same(4, 0));
        changesNothing("same of no q", RefusedCallsTest::used, ARGUMENT, x -> x.same(0, 4));
        changesNothing("a 21st same", RefusedCallsTest::withFullPile, STATE, x -> x.same(0, 0));
    }

    private static void combineChangesNothing() {
        changesNothing("combine of no kind", RefusedCallsTest::used, ARGUMENT, x -> x.combine(3));
        for (int what = 0; what <= 2; what++) {
            int w = what;
            changesNothing("a 21st by " + w, RefusedCallsTest::withFullPile, STATE, x -> x.combine(w));
            changesNothing(w + " of none", RefusedCallsTest::withEmptyPile, STATE, x -> x.combine(w));
        }
        changesNothing("AND of one", RefusedCallsTest::withOneProperty, STATE, x -> x.combine(0));
        changesNothing("OR of one", RefusedCallsTest::withOneProperty, STATE, x -> x.combine(1));
    }

    private static void checkAndRefineChangeNothing() {
        changesNothing("check of no type", RefusedCallsTest::used, INDEX, x -> x.check(6, 0));
        changesNothing("check of no depth", RefusedCallsTest::used, ARGUMENT, x -> x.check(0, 5));
        changesNothing("check of no property", RefusedCallsTest::withEmptyPile, STATE, x -> x.check(0, 1));
        changesNothing("check of too many", RefusedCallsTest::used, STATE, x -> x.check(0, 3));
        changesNothing("refine of no type", RefusedCallsTest::used, INDEX, x -> x.refine(6, 0) ? 1 : 0);
        changesNothing("refine of no depth", RefusedCallsTest::used, ARGUMENT, x -> x.refine(0, 5) ? 1 : 0);
        changesNothing("refine of no property", RefusedCallsTest::withEmptyPile, STATE, x -> x.refine(0, 1) ? 1 : 0);
    }

    /** "(evaluated() and passed() are what they came to then; what was shown stays)": so do the types and the pile. */
    private static void whatIsSaidOfRefine() {
        LazyTester x = used();
        LazyTester untouched = used();
        x.same(0, 0);
        untouched.same(0, 0);
        int counted = untouched.evaluated();
        Expect.refiningFails("refine", x, 0, 3);
        Expect.counts("refine", x, 2000, 467);
        String due = Seen.of(untouched).replace("evaluated " + counted + ", passed " + untouched.passed(),
                "evaluated 2000, passed 467");
        Expect.texts("after refine", Seen.of(x), due);
        Expect.texts("after refine", Seen.pileOf(x), Seen.pileOf(untouched));
    }

    /** No type; no number of fields; a field of no type; one that is not -1; a full type. */
    private static void constructorTestsInOrder() {
        LazyTester x = used();
        Expect.noSuchIndex("type, then fields", () -> x.constructor(6, 4, 0, 0, 0));
        Expect.noSuchIndex("type, then those that it has not", () -> x.constructor(6, 0, 0, 0, 0));
        Expect.badArgument("fields, then types of fields", () -> x.constructor(1, 4, 6, 6, 6));
        Expect.badArgument("fields, then types of fields", () -> x.constructor(1, -1, 6, 6, 6));
        Expect.badArgument("fields, then the full type", () -> x.constructor(0, 4, 0, 0, 0));
        Expect.noSuchIndex("a, then b that it has not", () -> x.constructor(1, 1, 6, 0, -1));
        Expect.noSuchIndex("a, then c that it has not", () -> x.constructor(1, 1, -1, -1, 0));
        Expect.noSuchIndex("b, then c that it has not", () -> x.constructor(1, 2, 0, 6, 0));
        Expect.noSuchIndex("a, then c that it has not", () -> x.constructor(1, 2, 6, 0, 0));
        Expect.noSuchIndex("a, then the full type", () -> x.constructor(0, 1, 6, -1, -1));
        Expect.noSuchIndex("c, then the full type", () -> x.constructor(0, 3, 0, 0, 6));
        Expect.badArgument("one that it has not, then the full type", () -> x.constructor(0, 0, 0, -1, -1));
        Expect.badArgument("one that it has not, then the full type", () -> x.constructor(0, 2, 0, 0, 0));
    }

    private static void countAndShowTestInOrder() {
        LazyTester x = used();
        Expect.noSuchIndex("count: type, then depth", () -> x.count(6, 5));
        Expect.noSuchIndex("count: type, then depth", () -> x.count(-1, -1));
        Expect.noSuchIndex("show: type, then depth", () -> x.show(6, 5, 0));
        Expect.noSuchIndex("show: type, then number", () -> x.show(-1, 0, -1));
        Expect.badArgument("show: depth, then number", () -> x.show(0, 5, -1));
        Expect.badArgument("show: depth, then number", () -> x.show(0, -1, LazyTester.MANY));
    }

    private static void sizedAndShowSizedTestInOrder() {
        LazyTester x = used();
        Expect.noSuchIndex("sized: type, then size", () -> x.sized(6, 0));
        Expect.noSuchIndex("sized: type, then size", () -> x.sized(-1, 13));
        Expect.noSuchIndex("showSized: type, then size", () -> x.showSized(6, 13, 0));
        Expect.noSuchIndex("showSized: type, then number", () -> x.showSized(-1, 1, -1));
        Expect.badArgument("showSized: size, then number", () -> x.showSized(0, 0, -1));
        Expect.badArgument("showSized: size, then number", () -> x.showSized(0, 13, Long.MAX_VALUE));
    }

    private static void propertiesTestInOrder() {
        LazyTester x = withFullPile();
        Expect.badArgument("test: path, then 20", () -> x.test(4, 0));
        Expect.badArgument("test: constructor, then 20", () -> x.test(0, 4));
        Expect.badArgument("same: p, then 20", () -> x.same(-1, 0));
        Expect.badArgument("same: q, then 20", () -> x.same(0, 256));
        Expect.badArgument("combine: what, then 20", () -> x.combine(3));
        LazyTester y = withEmptyPile();
        Expect.badArgument("combine: what, then how many", () -> y.combine(-1));
    }

    private static void checkAndRefineTestInOrder() {
        LazyTester x = withEmptyPile();
        Expect.noSuchIndex("check: type, then depth", () -> x.check(6, 5));
        Expect.noSuchIndex("check: type, then pile", () -> x.check(-1, 0));
        Expect.badArgument("check: depth, then pile", () -> x.check(0, 5));
        Expect.noSuchIndex("refine: type, then depth", () -> x.refine(6, 5) ? 1 : 0);
        Expect.noSuchIndex("refine: type, then pile", () -> x.refine(-1, 0) ? 1 : 0);
        Expect.badArgument("refine: depth, then pile", () -> x.refine(0, -1) ? 1 : 0);
    }
}
