/** Promise 9, and what SAME is. */
public final class SamePropertyTest {
    public static void main(String[] args) {
        nothingAtBoth();
        nothingAtOne();
        sameConstructorNumber();
        asManyFields();
        allFieldsAlike();
        partOfItself();
        howManyLieThere();
        noPaths();
        atMostTwenty();
        Expect.end();
    }

    private static int firstFalse(LazyTester x, int p, int q, int type, int depth) {
        x.discard();
        x.same(p, q);
        return x.check(type, depth);
    }

    /** "there is nothing at p and at q" */
    private static void nothingAtBoth() {
        LazyTester x = Samples.trees();
        Expect.answers("no fields", firstFalse(x, 1, 2, 0, 0), LazyTester.NONE);
        Expect.answers("no field 2, nothing in it", firstFalse(x, 3, 13, 0, 4), LazyTester.NONE);
        Expect.answers("a path itself", firstFalse(x, 255, 255, 0, 4), LazyTester.NONE);
    }

    /** "or something at both": not at one of them. */
    private static void nothingAtOne() {
        LazyTester x = Samples.trees();
        Expect.answers("nothing at q", firstFalse(x, 1, 5, 0, 2), 1);
        Expect.answers("nothing at p", firstFalse(x, 5, 1, 0, 2), 1);
        Expect.answers("nothing at q, the value at p", firstFalse(x, 0, 3, 0, 2), 0);
        Expect.answers("nothing at p, the value at q", firstFalse(x, 3, 0, 0, 2), 0);
    }

    /** "ALIKE: the same constructor number", of whichever types. */
    private static void sameConstructorNumber() {
        LazyTester x = Samples.trees();
        Expect.answers("nothing at both, leaves, then a leaf and a node", firstFalse(x, 1, 2, 0, 2), 2);
        LazyTester y = twoTypes();
        Expect.answers("units of two types, then a unit and another", firstFalse(y, 1, 2, 3, 2), 1);
    }

    /** "as many fields" */
    private static void asManyFields() {
        LazyTester x = twoTypes();
        x.constructor(4, 2, 2, 1, -1);
        x.same(1, 2);
        x.test(1, 0);
        x.combine(1);
        x.test(2, 0);
        x.combine(1);
        Expect.answers("the same number, one field and two", x.check(3, 2), 3);
        Expect.shows("it", x, 0, 1, 0, 1, 0, 0);
        Expect.answers("the same number, two fields and one", x.check(4, 2), 3);
        Expect.shows("it", x, 0, 1, 0, 0, 1, 0);
    }

    /** Type 1: a unit (0), one of a unit (1). Type 2: a unit (0), one of two units (1). Type 3: pairs of both. */
    private static LazyTester twoTypes() {
        LazyTester x = new LazyTester();
        x.constructor(0, 0, -1, -1, -1);
        x.constructor(1, 0, -1, -1, -1);
        x.constructor(1, 1, 0, -1, -1);
        x.constructor(2, 0, -1, -1, -1);
        x.constructor(2, 2, 0, 0, -1);
        x.constructor(3, 2, 1, 2, -1);
        return x;
    }

    /** "and all fields alike, in order": of 16 pairs of pairs just those of a pair and itself. */
    private static void allFieldsAlike() {
        for (int n = 0; n < 16; n++) {
            LazyTester x = Samples.squares();
            x.show(2, 2, n);
            boolean due = x.shown(2) == x.shown(5) && x.shown(3) == x.shown(6);
            x.test(5, 1 - x.shown(2));
            x.test(6, 1 - x.shown(3));
            x.combine(1);
            x.test(9, 1 - x.shown(5));
            x.combine(1);
            x.test(10, 1 - x.shown(6));
            x.combine(1);
            x.same(1, 2);
            x.combine(1);
            Expect.answers("pair of pairs " + n, x.check(2, 2), due ? LazyTester.NONE : n);
        }
        LazyTester y = new LazyTester();
        y.constructor(0, 0, -1, -1, -1);
        y.constructor(0, 0, -1, -1, -1);
        y.constructor(1, 3, 0, 0, 0);
        y.constructor(2, 2, 1, 1, -1);
        y.test(7, 1);
        y.combine(2);
        y.same(1, 2);
        y.combine(1);
        Expect.answers("a difference of the third fields alone", y.check(2, 2), 8);
        Expect.shows("it", y, 0, 0, 0, 0, 1, 0, 0, 0, 0);
    }

    private static void partOfItself() {
        LazyTester x = Samples.trees();
        Expect.answers("itself", firstFalse(x, 0, 0, 0, 4), LazyTester.NONE);
        Expect.answers("no node is alike with a part of it", firstFalse(x, 0, 2, 0, 4), 0);
        x.combine(2);
        Expect.answers("nor is a leaf", x.check(0, 4), LazyTester.NONE);
    }

    /** "Answers .. as test()." */
    private static void howManyLieThere() {
        LazyTester x = new LazyTester();
        Expect.answers("the first", x.same(0, 0), 1);
        Expect.answers("the second", x.same(85, 255), 2);
        x.combine(1);
        Expect.answers("two of them were made one", x.same(0, 0), 2);
    }

    /** "throws as test()": p or q is no path of at most 4 steps. */
    private static void noPaths() {
        LazyTester x = new LazyTester();
        for (int n : new int[] {-1, 4, 8, 16, 20, 64, 252, 256, 257, 341, 1023}) {
            Expect.badArgument("same(" + n + ", 0)", () -> x.same(n, 0));
            Expect.badArgument("same(0, " + n + ")", () -> x.same(0, n));
            Expect.badArgument("same(" + n + ", " + n + ")", () -> x.same(n, n));
        }
        Expect.answers("4 .. 255 are numbers of paths, not of constructors", x.same(5, 255), 1);
    }

    /** "throws as test()": if 20 have been made. */
    private static void atMostTwenty() {
        LazyTester x = new LazyTester();
        for (int n = 1; n <= 20; n++) {
            Expect.answers("property", x.same(0, 1), n);
        }
        Expect.badState("the 21st", () -> x.same(0, 0));
        x.discard();
        Expect.answers("the pile was empty", x.same(0, 0), 1);
    }
}
