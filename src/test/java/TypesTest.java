/** Terms: types, constructors, fields, and what size and depth are. */
public final class TypesTest {
    private static final int[] NO_TYPES = {-1, 6, Integer.MIN_VALUE, Integer.MAX_VALUE};

    public static void main(String[] args) {
        firstAndLastType();
        noTypes();
        noTypesOfFields();
        upToFourConstructors();
        allConstructorsAndFields();
        noneAtFirst();
        upToThreeFields();
        size();
        depth();
        Expect.end();
    }

    /** "TYPES are 0 .. 5." */
    private static void firstAndLastType() {
        for (int type = 0; type <= 5; type += 5) {
            LazyTester x = new LazyTester();
            Expect.answers("constructor", x.constructor(type, 0, -1, -1, -1), 0);
            Expect.answers("count", x.count(type, 0), 1);
            Expect.answers("show", x.show(type, 0, 0), 1);
            Expect.answers("sized", x.sized(type, 1), 1);
            Expect.answers("showSized", x.showSized(type, 1, 0), 1);
            x.test(0, 0);
            Expect.answers("check", x.check(type, 0), LazyTester.NONE);
            Expect.answers("evaluated by it", x.evaluated(), 1);
            Expect.notRefuted("refine", x, type, 0);
            Expect.answers("passed by it", x.passed(), 1);
            Expect.answers("types of fields", x.constructor(5 - type, 3, type, type, type), 0);
            Expect.answers("which have values", x.count(5 - type, 1), 1);
        }
    }

    /** "TYPES are 0 .. 5." */
    private static void noTypes() {
        LazyTester x = Samples.trees();
        x.test(0, 0);
        for (int type : NO_TYPES) {
            Expect.noSuchIndex("constructor of " + type, () -> x.constructor(type, 0, -1, -1, -1));
            Expect.noSuchIndex("count of " + type, () -> x.count(type, 0));
            Expect.noSuchIndex("show of " + type, () -> x.show(type, 0, 0));
            Expect.noSuchIndex("sized of " + type, () -> x.sized(type, 1));
            Expect.noSuchIndex("showSized of " + type, () -> x.showSized(type, 1, 0));
            Expect.noSuchIndex("check of " + type, () -> x.check(type, 0));
            Expect.noSuchIndex("refine of " + type, () -> x.refine(type, 0) ? 1 : 0);
        }
    }

    /** "each with up to 3 FIELDS 0, 1, .., which have types." */
    private static void noTypesOfFields() {
        LazyTester x = Samples.trees();
        for (int type : NO_TYPES) {
            Expect.noSuchIndex("field 0 of 1: " + type, () -> x.constructor(0, 1, type, -1, -1));
            Expect.noSuchIndex("field 0 of 2: " + type, () -> x.constructor(0, 2, type, 0, -1));
            Expect.noSuchIndex("field 1 of 2: " + type, () -> x.constructor(0, 2, 0, type, -1));
            Expect.noSuchIndex("field 0 of 3: " + type, () -> x.constructor(0, 3, type, 0, 0));
            Expect.noSuchIndex("field 1 of 3: " + type, () -> x.constructor(0, 3, 0, type, 0));
            Expect.noSuchIndex("field 2 of 3: " + type, () -> x.constructor(0, 3, 0, 0, type));
        }
    }

    /** "A type has up to 4 CONSTRUCTORS 0, 1, .." */
    private static void upToFourConstructors() {
        LazyTester x = new LazyTester();
        for (int type = 0; type <= 5; type++) {
            int t = type;
            for (int c = 0; c < 4; c++) {
                Expect.answers("constructor of " + type, x.constructor(type, 0, -1, -1, -1), c);
            }
            Expect.badState("a fifth one of " + type, () -> x.constructor(t, 0, -1, -1, -1));
            Expect.badState("a fifth one with fields", () -> x.constructor(t, 3, 0, 0, 0));
        }
        for (int type = 0; type <= 5; type++) {
            Expect.answers("values of " + type, x.count(type, 4), 4);
            Expect.answers("the last one of " + type, x.show(type, 4, 3), 1);
            Expect.shows("the last one of " + type, x, 3);
        }
    }

    /** All 24 constructors that there can be, 20 of them with all fields that there can be. */
    private static void allConstructorsAndFields() {
        LazyTester x = new LazyTester();
        for (int c = 0; c < 4; c++) {
            x.constructor(0, 0, -1, -1, -1);
            for (int type = 1; type <= 5; type++) {
                x.constructor(type, 3, 0, 0, 0);
            }
        }
        x.test(0, 3);
        x.combine(2);
        for (int type = 1; type <= 5; type++) {
            Expect.answers("4 * 4 * 4 * 4", x.count(type, 1), 256);
            Expect.answers("as many of size 4", x.sized(type, 4), 256);
            Expect.answers("the last", x.show(type, 1, 255), 4);
            Expect.shows("the last", x, 3, 3, 3, 3);
            Expect.answers("the one before the last", x.showSized(type, 4, 254), 4);
            Expect.shows("the one before the last", x, 3, 3, 3, 2);
            Expect.refuted("the last constructor", x, type, 1);
            Expect.shows("the last constructor", x, 3, LazyTester.HOLE, LazyTester.HOLE, LazyTester.HOLE);
            Expect.counts("the last constructor", x, 5, 192);
            Expect.answers("the first with it", x.check(type, 1), 192);
        }
    }

    /** "(none at first)" */
    private static void noneAtFirst() {
        LazyTester x = new LazyTester();
        x.test(0, 0);
        for (int type = 0; type <= 5; type++) {
            int t = type;
            Expect.answers("count", x.count(type, 4), 0);
            Expect.badState("show", () -> x.show(t, 4, 0));
            Expect.answers("check", x.check(type, 4), LazyTester.NONE);
            Expect.notRefuted("refine", x, type, 4);
            Expect.counts("refine", x, 1, 0);
        }
    }

    /** "each with up to 3 FIELDS" */
    private static void upToThreeFields() {
        LazyTester x = new LazyTester();
        x.constructor(0, 0, -1, -1, -1);
        x.constructor(1, 0, -1, -1, -1);
        x.constructor(1, 1, 0, -1, -1);
        x.constructor(1, 2, 0, 0, -1);
        x.constructor(1, 3, 0, 0, 0);
        for (int fields = 0; fields <= 3; fields++) {
            Expect.answers(fields + " fields", x.show(1, 1, fields), fields + 1);
        }
        for (int fields : new int[] {-1, 4, Integer.MIN_VALUE, Integer.MAX_VALUE}) {
            Expect.badArgument(fields + " fields", () -> x.constructor(0, fields, 0, 0, 0));
            Expect.badArgument(fields + " fields", () -> x.constructor(0, fields, -1, -1, -1));
        }
    }

    /** "Its SIZE is how many constructors it has in all" */
    private static void size() {
        LazyTester x = Samples.bushes();
        Expect.answers("without fields", x.sized(0, 1), 1);
        Expect.answers("none has two", x.sized(0, 2), 0);
        Expect.answers("none has three", x.sized(0, 3), 0);
        Expect.answers("itself and three fields", x.sized(0, 4), 3);
        Expect.answers("as many are shown", x.showSized(0, 10, 0), 10);
        Expect.answers("the last of these", x.shown(9), 0);
        Expect.answers("no more", x.shown(10), LazyTester.NONE);
    }

    /** "its DEPTH 0 without fields, otherwise 1 more than the greatest of its fields." */
    private static void depth() {
        LazyTester x = new LazyTester();
        x.constructor(0, 0, -1, -1, -1);
        x.constructor(1, 1, 0, -1, -1);
        x.constructor(2, 3, 0, 0, 0);
        x.constructor(3, 3, 1, 0, 0);
        x.constructor(4, 3, 0, 1, 0);
        x.constructor(5, 3, 0, 0, 1);
        int[] due = {0, 1, 1, 2, 2, 2};
        for (int type = 0; type <= 5; type++) {
            for (int depth = 0; depth <= 4; depth++) {
                Expect.answers("of type " + type + " to depth " + depth, x.count(type, depth), depth < due[type] ? 0 : 1);
            }
        }
    }
}
