/** Objects with types that many tests use. */
final class Samples {
    private Samples() {
    }

    /** Type 0: a leaf (0), or a node (1) of two trees. 1, 2, 5, 26, 677 values of depth 0 .. 4. */
    static LazyTester trees() {
        LazyTester x = new LazyTester();
        x.constructor(0, 0, -1, -1, -1);
        x.constructor(0, 2, 0, 0, -1);
        return x;
    }

    /** Type 0: false (0), true (1). Type 1: the empty list (0), or one (1) of a head of type 0 and a tail. */
    static LazyTester lists() {
        LazyTester x = new LazyTester();
        x.constructor(0, 0, -1, -1, -1);
        x.constructor(0, 0, -1, -1, -1);
        x.constructor(1, 0, -1, -1, -1);
        x.constructor(1, 2, 0, 1, -1);
        return x;
    }

    /** Type 0: zero (0), the number after one (1). Type 2: pairs of these. */
    static LazyTester pairs() {
        LazyTester x = new LazyTester();
        x.constructor(0, 0, -1, -1, -1);
        x.constructor(0, 1, 0, -1, -1);
        x.constructor(2, 2, 0, 0, -1);
        return x;
    }

    /** Type 0: a leaf (0), or three kinds (1, 2, 3) of nodes of three. More than MANY values of depth 4. */
    static LazyTester bushes() {
        LazyTester x = new LazyTester();
        x.constructor(0, 0, -1, -1, -1);
        for (int i = 0; i < 3; i++) {
            x.constructor(0, 3, 0, 0, 0);
        }
        return x;
    }

    /** Type 0: no values, for its only constructor (0) needs one. Type 1: a pair (0) of type 2 and 0. Type 2: a unit (0). */
    static LazyTester empties() {
        LazyTester x = new LazyTester();
        x.constructor(0, 1, 0, -1, -1);
        x.constructor(1, 2, 2, 0, -1);
        x.constructor(2, 0, -1, -1, -1);
        return x;
    }
}
