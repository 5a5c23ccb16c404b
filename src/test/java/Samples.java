/** Objects with types that many tests use. */
final class Samples {
    private Samples() {
    }

    /** Type 0: a leaf (0), or a node (1) of two trees. 1, 2, 5, 26, 677 values of depth 0 .. 4. */
    static LazyTester trees() {
        LazyTester x = new LazyTester();
        x.constructor(0, 0, -1, -1, -1);
        x.constructor(0, 2, 0, 0, -1);
        return x;
    }

    /** Type 0: false (0), true (1). Type 1: the empty list (0), or one (1) of a head of type 0 and a tail. */
    static LazyTester lists() {
        LazyTester x = new LazyTester();
        x.constructor(0, 0, -1, -1, -1);
        x.constructor(0, 0, -1, -1, -1);
        x.constructor(1, 0, -1, -1, -1);
        x.constructor(1, 2, 0, 1, -1);
        return x;
    }

    /** Type 0: zero (0), the number after one (1). Type 2: pairs of these. */
    static LazyTester pairs() {
        LazyTester x = new LazyTester();
        x.constructor(0, 0, -1, -1, -1);
        x.constructor(0, 1, 0, -1, -1);
        x.constructor(2, 2, 0, 0, -1);
        return x;
    }

    /** Type 0: a leaf (0), or three kinds (1, 2, 3) of nodes of three. More than MANY values of depth 4. */
    static LazyTester bushes() {
        LazyTester x = new LazyTester();
        x.constructor(0, 0, -1, -1, -1);
        for (int i = 0; i < 3; i++) {
            x.constructor(0, 3, 0, 0, 0);
        }
        return x;
    }

    /** Type 0: no values, for its only constructor (0) needs one. Type 1: a pair (0) of type 2 and 0. Type 2: a unit (0). */
    static LazyTester empties() {
        LazyTester x = new LazyTester();
        x.constructor(0, 1, 0, -1, -1);
        x.constructor(1, 2, 2, 0, -1);
        x.constructor(2, 0, -1, -1, -1);
        return x;
    }

    /** Types 0 .. 3: three of the next type. Type 4: a unit. Type 0 has one value, of depth 4 and size 121. */
    static LazyTester widest() {
        LazyTester x = new LazyTester();
        for (int type = 0; type < 4; type++) {
            x.constructor(type, 3, type + 1, type + 1, type + 1);
        }
        x.constructor(4, 0, -1, -1, -1);
        return x;
    }

    /** Type 2 has 3 + 3 + 4 = 10 values of depth 1, type 3 a thousand of depth 2. */
    static LazyTester thousand() {
        LazyTester x = new LazyTester();
        for (int c = 0; c < 3; c++) {
            x.constructor(0, 0, -1, -1, -1);
        }
        for (int c = 0; c < 4; c++) {
            x.constructor(1, 0, -1, -1, -1);
        }
        x.constructor(2, 1, 0, -1, -1);
        x.constructor(2, 1, 0, -1, -1);
        x.constructor(2, 1, 1, -1, -1);
        x.constructor(3, 3, 2, 2, 2);
        return x;
    }

    /** Type 0: false (0), true (1). Type 1: pairs of these. Type 2: pairs of pairs. */
    static LazyTester squares() {
        LazyTester x = new LazyTester();
        x.constructor(0, 0, -1, -1, -1);
        x.constructor(0, 0, -1, -1, -1);
        x.constructor(1, 2, 0, 0, -1);
        x.constructor(2, 2, 1, 1, -1);
        return x;
    }

    /**
     * Type 3 has 2 to the 48th values of depth 3, type 4 has 3. Type 5: pairs of these, which are fewer than
     * MANY, but with one more in type 4 they were not.
     */
    static LazyTester belowMany() {
        LazyTester x = new LazyTester();
        for (int c = 0; c < 4; c++) {
            x.constructor(0, 0, -1, -1, -1);
            x.constructor(1, 3, 0, 0, 0);
        }
        x.constructor(2, 3, 1, 1, 1);
        x.constructor(3, 2, 2, 2, -1);
        for (int c = 0; c < 3; c++) {
            x.constructor(4, 0, -1, -1, -1);
        }
        x.constructor(5, 2, 4, 3, -1);
        return x;
    }
}
