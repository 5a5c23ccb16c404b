/** Promise 2. */
public final class ConstructorTest {
    public static void main(String[] args) {
        addsAConstructor();
        answersItsNumber();
        fieldsKeepTheirTypes();
        noSuchType();
        noSuchFields();
        aFieldOfNoSuchType();
        oneThatItHasNot();
        theTypeHasFour();
        Expect.end();
    }

    /** "Adds a constructor to a type", whose values, and those of the types that have it in fields, are more then. */
    private static void addsAConstructor() {
        LazyTester x = Samples.lists();
        Expect.answers("lists of truths", x.count(1, 2), 7);
        x.constructor(0, 0, -1, -1, -1);
        Expect.answers("a third truth", x.count(0, 0), 3);
        Expect.answers("lists of these", x.count(1, 2), 13);
        Expect.answers("of size 3", x.sized(1, 3), 3);
        Expect.answers("other types", x.count(2, 4), 0);
    }

    /** "Answers its number." */
    private static void answersItsNumber() {
        LazyTester x = new LazyTester();
        Expect.answers("without fields", x.constructor(0, 0, -1, -1, -1), 0);
        Expect.answers("of another type", x.constructor(5, 0, -1, -1, -1), 0);
        Expect.answers("with one", x.constructor(0, 1, 5, -1, -1), 1);
        Expect.answers("with two", x.constructor(0, 2, 5, 0, -1), 2);
        Expect.answers("of the other type", x.constructor(5, 1, 5, -1, -1), 1);
        Expect.answers("with three", x.constructor(0, 3, 0, 5, 0), 3);
    }

    /** "with so many fields, of types a, b, c" */
    private static void fieldsKeepTheirTypes() {
        LazyTester x = new LazyTester();
        for (int type = 1; type <= 3; type++) {
            for (int c = 0; c < type; c++) {
                x.constructor(type, 0, -1, -1, -1);
            }
        }
        x.constructor(0, 3, 1, 2, 3);
        Expect.answers("1 * 2 * 3", x.count(0, 1), 6);
        Expect.answers("the last", x.show(0, 1, 5), 4);
        Expect.shows("the last", x, 0, 0, 1, 2);
    }

    /** "IndexOutOfBoundsException if there is no such type" */
    private static void noSuchType() {
        LazyTester x = new LazyTester();
        for (int type : new int[] {-1, 6, Integer.MIN_VALUE, Integer.MAX_VALUE}) {
            Expect.noSuchIndex("type " + type, () -> x.constructor(type, 0, -1, -1, -1));
        }
    }

    /** "IllegalArgumentException if fields is not 0 .. 3" */
    private static void noSuchFields() {
        LazyTester x = new LazyTester();
        for (int fields : new int[] {-1, 4, Integer.MIN_VALUE, Integer.MAX_VALUE}) {
            Expect.badArgument("fields " + fields, () -> x.constructor(0, fields, 0, 0, 0));
            Expect.badArgument("fields " + fields, () -> x.constructor(0, fields, -1, -1, -1));
        }
        Expect.answers("fields 0", x.constructor(0, 0, -1, -1, -1), 0);
        Expect.answers("fields 3", x.constructor(0, 3, 0, 0, 0), 1);
    }

    /** "IndexOutOfBoundsException if a field that it has is of no such type": -1, too. */
    private static void aFieldOfNoSuchType() {
        LazyTester x = new LazyTester();
        for (int type : new int[] {-1, 6, -2, Integer.MIN_VALUE, Integer.MAX_VALUE}) {
            Expect.noSuchIndex("a " + type, () -> x.constructor(0, 1, type, -1, -1));
            Expect.noSuchIndex("b " + type, () -> x.constructor(0, 2, 0, type, -1));
            Expect.noSuchIndex("c " + type, () -> x.constructor(0, 3, 0, 0, type));
        }
        Expect.answers("type 5, which has none", x.constructor(0, 3, 5, 5, 5), 0);
    }

    /** "IllegalArgumentException if one that it has not is not -1": even if it is a type. */
    private static void oneThatItHasNot() {
        LazyTester x = new LazyTester();
        for (int type : new int[] {0, 5, 6, -2, Integer.MIN_VALUE, Integer.MAX_VALUE}) {
            Expect.badArgument("a " + type + " of 0", () -> x.constructor(0, 0, type, -1, -1));
            Expect.badArgument("b " + type + " of 0", () -> x.constructor(0, 0, -1, type, -1));
            Expect.badArgument("c " + type + " of 0", () -> x.constructor(0, 0, -1, -1, type));
            Expect.badArgument("b " + type + " of 1", () -> x.constructor(0, 1, 0, type, -1));
            Expect.badArgument("c " + type + " of 1", () -> x.constructor(0, 1, 0, -1, type));
            Expect.badArgument("c " + type + " of 2", () -> x.constructor(0, 2, 0, 0, type));
        }
        Expect.answers("nothing was added", x.constructor(0, 0, -1, -1, -1), 0);
    }

    /** "IllegalStateException if the type has 4." */
    private static void theTypeHasFour() {
        LazyTester x = new LazyTester();
        for (int c = 0; c < 4; c++) {
            Expect.answers("constructor", x.constructor(3, 0, -1, -1, -1), c);
        }
        Expect.badState("a fifth one", () -> x.constructor(3, 0, -1, -1, -1));
        Expect.badState("a fifth one, with fields", () -> x.constructor(3, 1, 3, -1, -1));
        Expect.answers("another type", x.constructor(2, 3, 3, 3, 3), 0);
        Expect.answers("of which there are 4 * 4 * 4", x.count(2, 1), 64);
    }
}
