/** Promise 2. */
public final class ConstructorTest {
    public static void main(String[] args) {
        numbers();
        wrongArguments();
        orderOfTests();
        fieldsKeepTheirTypes();
        Expect.end();
    }

    private static void numbers() {
        LazyTester x = new LazyTester();
        for (int c = 0; c < 4; c++) {
            Expect.answers("constructor of 0", x.constructor(0, c, c > 0 ? 0 : -1, c > 1 ? 5 : -1, c > 2 ? 0 : -1), c);
        }
        Expect.badState("a fifth one", () -> x.constructor(0, 0, -1, -1, -1));
        Expect.answers("another type", x.constructor(5, 0, -1, -1, -1), 0);
        Expect.answers("one value for each constructor", x.count(0, 1), 4);
    }

    private static void wrongArguments() {
        LazyTester x = Samples.trees();
        Expect.noSuchIndex("type -1", () -> x.constructor(-1, 0, -1, -1, -1));
        Expect.noSuchIndex("type 6", () -> x.constructor(6, 0, -1, -1, -1));
        Expect.noSuchIndex("a least type", () -> x.constructor(Integer.MIN_VALUE, 0, -1, -1, -1));
        Expect.badArgument("fields -1", () -> x.constructor(0, -1, -1, -1, -1));
        Expect.badArgument("fields 4", () -> x.constructor(0, 4, 0, 0, 0));
        Expect.noSuchIndex("a -1", () -> x.constructor(0, 1, -1, -1, -1));
        Expect.noSuchIndex("a 6", () -> x.constructor(0, 1, 6, -1, -1));
        Expect.noSuchIndex("b -1", () -> x.constructor(0, 2, 0, -1, -1));
        Expect.noSuchIndex("b 6", () -> x.constructor(0, 2, 0, 6, -1));
        Expect.noSuchIndex("c -1", () -> x.constructor(0, 3, 0, 0, -1));
        Expect.noSuchIndex("c 6", () -> x.constructor(0, 3, 0, 0, 6));
        Expect.badArgument("a for none", () -> x.constructor(0, 0, 0, -1, -1));
        Expect.badArgument("b for none", () -> x.constructor(0, 1, 0, 0, -1));
        Expect.badArgument("c for none", () -> x.constructor(0, 2, 0, 0, 0));
        Expect.badArgument("-2 for none", () -> x.constructor(0, 2, 0, 0, -2));
        Expect.badArgument("6 for none", () -> x.constructor(0, 0, -1, -1, 6));
        Expect.answers("nothing was added", x.count(0, 4), 677);
        Expect.answers("the next number", x.constructor(0, 0, -1, -1, -1), 2);
    }

    private static void orderOfTests() {
        LazyTester x = Samples.bushes();
        Expect.noSuchIndex("type before fields", () -> x.constructor(6, 4, 9, 9, 9));
        Expect.badArgument("fields before field types", () -> x.constructor(0, 4, 9, 9, 9));
        Expect.noSuchIndex("types of fields before those of none", () -> x.constructor(0, 1, 6, 0, 0));
        Expect.noSuchIndex("the last field before those of none", () -> x.constructor(0, 2, 0, 6, 0));
        Expect.badArgument("those of none before the full type", () -> x.constructor(0, 1, 0, 0, -1));
        Expect.noSuchIndex("types of fields before the full type", () -> x.constructor(0, 1, 6, -1, -1));
        Expect.badState("the full type", () -> x.constructor(0, 1, 0, -1, -1));
    }

    private static void fieldsKeepTheirTypes() {
        LazyTester x = new LazyTester();
        for (int type = 1; type <= 3; type++) {
            for (int c = 0; c < type; c++) {
                x.constructor(type, 0, -1, -1, -1);
            }
        }
        x.constructor(0, 3, 1, 2, 3);
        Expect.answers("1 * 2 * 3", x.count(0, 1), 6);
        Expect.answers("the last", x.show(0, 1, 5), 4);
        Expect.shows("the last", x, 0, 0, 1, 2);
    }
}
