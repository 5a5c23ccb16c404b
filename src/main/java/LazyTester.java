/**
 * Tests a property of all values of a type up to a depth: one by one, or by values that are known
 * in part only, of which as little is worked out as the property asks for.
 */
public final class LazyTester {
    public static final int NONE = -1;
    public static final int HOLE = -2;
    public static final long MANY = 1000000000000000L;

    private static final int TYPES = 6;
    private static final int CONSTRUCTORS = 4;
    private static final int FIELDS = 3;
    private static final int MAX_DEPTH = 4;
    private static final int MAX_SIZE = 12;

    /** Paths of at most MAX_DEPTH steps are below this: each step is one digit to base 4. */
    private static final int PATHS = 256;
    /** One constructor, three fields, nine fields of these, ..: the most that a depth of 4 can hold. */
    private static final int MAX_SHOWN = 121;

    private static final int MAX_PROPERTIES = 20;
    private static final int MAX_CHECKED = 1000;
    private static final int MAX_EVALUATIONS = 2000;

    /** What evaluating answers; any other answer is the path of the hole that is asked for. */
    private static final int TRUE = -1;
    private static final int FALSE = -2;

    private static final int NOTHING = -1;

    private static final int AND = 0;
    private static final int OR = 1;
    private static final int NOT = 2;
    private static final int TEST = 3;
    private static final int SAME = 4;

    private final Types types = new Types();
    private final DepthTable depths = new DepthTable(types);
    private final SizeTable sizes = new SizeTable(types);
    private final Row row = new Row();
    private final Value value = new Value(types, depths);
    private final SizedValues sizedValues = new SizedValues(types, sizes, row);
    private final Pile pile = new Pile();
    private final Refining refining = new Refining(value, pile);
    private int latestEvaluated = 0;
    private long latestPassed = 0;

    public LazyTester() {
    }

    public int constructor(int type, int fields, int a, int b, int c)
            throws IndexOutOfBoundsException, IllegalArgumentException, IllegalStateException {
        requireType(type);
        if (fields < 0 || fields > FIELDS) {
            throw new IllegalArgumentException("fields is not 0 .. 3");
        }
        requireFieldTypes(fields, a, b, c);
        if (types.constructors(type) >= CONSTRUCTORS) {
            throw new IllegalStateException("the type has 4 constructors");
        }
        int number = types.add(type, fields, a, b, c);
        depths.fill();
        sizes.fill();
        return number;
    }

    public long count(int type, int depth) throws IndexOutOfBoundsException, IllegalArgumentException {
        requireType(type);
        requireDepth(depth);
        return depths.values(type, depth);
    }

    public int show(int type, int depth, long number)
            throws IndexOutOfBoundsException, IllegalArgumentException, IllegalStateException {
        requireType(type);
        requireDepth(depth);
        // The table stops at MANY, so that this refuses the numbers from MANY on, too.
        requireNumber(number, depths.values(type, depth));
        value.become(type, depth, number);
        value.writeTo(row);
        return row.length();
    }

    public long sized(int type, int size) throws IndexOutOfBoundsException, IllegalArgumentException {
        requireType(type);
        requireSize(size);
        return sizes.values(type, size);
    }

    public int showSized(int type, int size, long number)
            throws IndexOutOfBoundsException, IllegalArgumentException, IllegalStateException {
        requireType(type);
        requireSize(size);
        requireNumber(number, sizes.values(type, size));
        sizedValues.write(type, size, number);
        return row.length();
    }

    public int shown(int j) {
        return row.at(j);
    }

    public int test(int p, int c) throws IllegalArgumentException, IllegalStateException {
        requirePath(p);
        if (c < 0 || c >= CONSTRUCTORS) {
            throw new IllegalArgumentException("c is not 0 .. 3");
        }
        requireRoomOnPile();
        return pile.put(TEST, p, c);
    }

    public int same(int p, int q) throws IllegalArgumentException, IllegalStateException {
        requirePath(p);
        requirePath(q);
        requireRoomOnPile();
        return pile.put(SAME, p, q);
    }

    public int combine(int what) throws IllegalArgumentException, IllegalStateException {
        if (what < AND || what > NOT) {
            throw new IllegalArgumentException("what is not 0 .. 2");
        }
        if (pile.height() < Pile.operands(what)) {
            throw new IllegalStateException("too few properties lie on the pile");
        }
        requireRoomOnPile();
        return pile.join(what);
    }

    public void discard() {
        pile.clear();
    }

    public int check(int type, int depth)
            throws IndexOutOfBoundsException, IllegalArgumentException, IllegalStateException {
        requireType(type);
        requireDepth(depth);
        requireProperty();
        long values = depths.values(type, depth);
        if (values > MAX_CHECKED) {
            throw new IllegalStateException("there are more than 1000 values");
        }
        int found = firstFalse(type, depth, (int) values);
        latestEvaluated = found == NONE ? (int) values : found + 1;
        latestPassed = found == NONE ? values : found;
        if (found != NONE) {
            value.writeTo(row);
        }
        return found;
    }

    public boolean refine(int type, int depth)
            throws IndexOutOfBoundsException, IllegalArgumentException, IllegalStateException {
        requireType(type);
        requireDepth(depth);
        requireProperty();
        Outcome outcome = refining.run(type, depth);
        latestEvaluated = refining.evaluations();
        latestPassed = refining.passes();
        if (outcome == Outcome.FAILED) {
            throw new IllegalStateException("more than 2000 evaluations");
        }
        if (outcome == Outcome.REFUTED) {
            value.writeTo(row);
        }
        return outcome != Outcome.REFUTED;
    }

    public int evaluated() {
        return latestEvaluated;
    }

    public long passed() {
        return latestPassed;
    }

    /** The number of the first value that the topmost property is false of, which value then is. */
    private int firstFalse(int type, int depth, int values) {
        for (int number = 0; number < values; number++) {
            value.become(type, depth, number);
            if (pile.evaluateTopmost(value) == FALSE) {
                return number;
            }
        }
        return NONE;
    }

    private static void requireType(int type) {
        if (type < 0 || type >= TYPES) {
            throw new IndexOutOfBoundsException("no such type");
        }
    }

    private static void requireFieldTypes(int fields, int a, int b, int c) {
        if (fields > 0) {
            requireType(a);
        }
        if (fields > 1) {
            requireType(b);
        }
        if (fields > 2) {
            requireType(c);
        }
        if (fields < 1 && a != NONE || fields < 2 && b != NONE || fields < 3 && c != NONE) {
            throw new IllegalArgumentException("a type for a field that there is not");
        }
    }

    private static void requireDepth(int depth) {
        if (depth < 0 || depth > MAX_DEPTH) {
            throw new IllegalArgumentException("depth is not 0 .. 4");
        }
    }

    private static void requireSize(int size) {
        if (size < 1 || size > MAX_SIZE) {
            throw new IllegalArgumentException("size is not 1 .. 12");
        }
    }

    private static void requireNumber(long number, long values) {
        if (number < 0 || number >= values) {
            throw new IllegalStateException("no value of that number");
        }
    }

    private static void requirePath(int path) {
        if (!Paths.isPath(path)) {
            throw new IllegalArgumentException("no path of at most 4 steps");
        }
    }

    private void requireRoomOnPile() {
        if (pile.made() >= MAX_PROPERTIES) {
            throw new IllegalStateException("20 properties have been made");
        }
    }

    private void requireProperty() {
        if (pile.height() == 0) {
            throw new IllegalStateException("the pile is empty");
        }
    }

    /** For numbers up to MANY, two of which a long can hold together. */
    private static long cappedSum(long a, long b) {
        return Math.min(a + b, MANY);
    }

    /** For numbers up to MANY; looks before it multiplies, since a long can't hold MANY times MANY. */
    private static long cappedProduct(long a, long b) {
        if (b == 0) {
            return 0;
        }
        return a > MANY / b ? MANY : a * b;
    }

    /** Paths as numbers: the lowest digit to base 4 is the last step. */
    private static final class Paths {
        private Paths() {
        }

        static boolean isPath(int path) {
            if (path < 0 || path >= PATHS) {
                return false;
            }
            for (int rest = path; rest > 0; rest >>= 2) {
                if ((rest & 3) == 0) {
                    return false;
                }
            }
            return true;
        }

        static int toField(int path, int k) {
            return 4 * path + k + 1;
        }

        static int steps(int path) {
            int steps = 0;
            for (int rest = path; rest > 0; rest >>= 2) {
                steps++;
            }
            return steps;
        }
    }

    /**
     * The types and their constructors. Inside, a constructor of a type goes by one number, its
     * form, so that every table needs one index for it.
     */
    private static final class Types {
        private final int[] constructors = new int[TYPES];
        private final int[] fields = new int[TYPES * CONSTRUCTORS];
        private final int[] fieldTypes = new int[TYPES * CONSTRUCTORS * FIELDS];

        static int form(int type, int constructor) {
            return type * CONSTRUCTORS + constructor;
        }

        int add(int type, int fieldsOfIt, int a, int b, int c) {
            int number = constructors[type];
            int form = form(type, number);
            fields[form] = fieldsOfIt;
            fieldTypes[form * FIELDS] = a;
            fieldTypes[form * FIELDS + 1] = b;
            fieldTypes[form * FIELDS + 2] = c;
            constructors[type] = number + 1;
            return number;
        }

        int constructors(int type) {
            return constructors[type];
        }

        int fields(int form) {
            return fields[form];
        }

        int fieldType(int form, int k) {
            return fieldTypes[form * FIELDS + k];
        }
    }

    /** How many values of each depth or less there are; MANY stands for all that is more. */
    private static final class DepthTable {
        private static final int DEPTHS = MAX_DEPTH + 1;
        private final Types types;
        private final long[] ofType = new long[TYPES * DEPTHS];
        private final long[] ofForm = new long[TYPES * CONSTRUCTORS * DEPTHS];

        DepthTable(Types types) {
            this.types = types;
        }

        void fill() {
            for (int depth = 0; depth < DEPTHS; depth++) {
                for (int type = 0; type < TYPES; type++) {
                    fillType(type, depth);
                }
            }
        }

        private void fillType(int type, int depth) {
            long sum = 0;
            for (int c = 0; c < types.constructors(type); c++) {
                int form = Types.form(type, c);
                long values = types.fields(form) > 0 && depth == 0 ? 0 : fieldValues(form, 0, depth);
                ofForm[form * DEPTHS + depth] = values;
                sum = cappedSum(sum, values);
            }
            ofType[type * DEPTHS + depth] = sum;
        }

        long values(int type, int depth) {
            return ofType[type * DEPTHS + depth];
        }

        long formValues(int form, int depth) {
            return ofForm[form * DEPTHS + depth];
        }

        /** In how many ways a form of a depth can have its fields from k on; depth is above 0 if there are any. */
        long fieldValues(int form, int k, int depth) {
            long product = 1;
            for (int field = k; field < types.fields(form); field++) {
                product = cappedProduct(product, values(types.fieldType(form, field), depth - 1));
            }
            return product;
        }
    }

    /**
     * How many values of each size there are. A value is known by its constructors' numbers in the
     * order in which they are shown, so that there are no more than 4 to the 12th.
     */
    private static final class SizeTable {
        private static final int WIDTH = MAX_SIZE + 1;
        private static final int STARTS = FIELDS + 1;
        private final Types types;
        private final long[] ofType = new long[TYPES * WIDTH];
        private final long[] ofFields = new long[TYPES * CONSTRUCTORS * STARTS * WIDTH];

        SizeTable(Types types) {
            this.types = types;
        }

        void fill() {
            for (int inFields = 0; inFields < MAX_SIZE; inFields++) {
                for (int type = 0; type < TYPES; type++) {
                    fillType(type, inFields);
                }
            }
        }

        private void fillType(int type, int inFields) {
            long sum = 0;
            for (int c = 0; c < types.constructors(type); c++) {
                int form = Types.form(type, c);
                for (int k = types.fields(form); k >= 0; k--) {
                    ofFields[(form * STARTS + k) * WIDTH + inFields] = waysToShare(form, k, inFields);
                }
                sum += fieldValues(form, 0, inFields);
            }
            ofType[type * WIDTH + inFields + 1] = sum;
        }

        private long waysToShare(int form, int k, int inFields) {
            if (k == types.fields(form)) {
                return inFields == 0 ? 1 : 0;
            }
            long sum = 0;
            for (int part = 1; part <= inFields; part++) {
                sum += values(types.fieldType(form, k), part) * fieldValues(form, k + 1, inFields - part);
            }
            return sum;
        }

        long values(int type, int size) {
            return ofType[type * WIDTH + size];
        }

        /** In how many ways a form can have its fields from k on with a size that they have together. */
        long fieldValues(int form, int k, int together) {
            return ofFields[(form * STARTS + k) * WIDTH + together];
        }
    }

    /** What is shown. */
    private static final class Row {
        private final int[] items = new int[MAX_SHOWN];
        private int length = 0;

        void clear() {
            length = 0;
        }

        void add(int item) {
            if (length < MAX_SHOWN) {
                items[length] = item;
                length++;
            }
        }

        int length() {
            return length;
        }

        int at(int j) {
            return j < 0 || j >= length ? NONE : items[j];
        }
    }

    /** Finds the values of a size by their numbers. */
    private static final class SizedValues {
        private final Types types;
        private final SizeTable sizes;
        private final Row row;
        /** The sizes of the fields of a value of each size: what is inside a value is smaller and leaves its row alone. */
        private final int[] parts = new int[(MAX_SIZE + 1) * FIELDS];

        SizedValues(Types types, SizeTable sizes, Row row) {
            this.types = types;
            this.sizes = sizes;
            this.row = row;
        }

        void write(int type, int size, long number) {
            row.clear();
            writePart(type, size, number);
        }

        private void writePart(int type, int size, long number) {
            if (size < 1) {
                return;
            }
            long rest = number;
            int c = 0;
            while (c < types.constructors(type) - 1
                    && rest >= sizes.fieldValues(Types.form(type, c), 0, size - 1)) {
                rest -= sizes.fieldValues(Types.form(type, c), 0, size - 1);
                c++;
            }
            row.add(c);
            writeFields(Types.form(type, c), size, rest);
        }

        private void writeFields(int form, int size, long number) {
            long rest = share(form, size, number);
            for (int k = 0; k < types.fields(form); k++) {
                long later = waysAfter(form, size, k);
                if (later > 0) {
                    writePart(types.fieldType(form, k), parts[size * FIELDS + k], rest / later);
                    rest %= later;
                }
            }
        }

        /** Finds the sizes of the fields; answers the number among the values whose fields have these sizes. */
        private long share(int form, int size, long number) {
            long rest = number;
            long before = 1;
            int left = size - 1;
            for (int k = 0; k < types.fields(form); k++) {
                int type = types.fieldType(form, k);
                int part = 1;
                long ways = before * waysWithPart(form, k, part, left);
                while (part < left && rest >= ways) {
                    rest -= ways;
                    part++;
                    ways = before * waysWithPart(form, k, part, left);
                }
                parts[size * FIELDS + k] = part;
                before *= sizes.values(type, part);
                left -= part;
            }
            return rest;
        }

        private long waysWithPart(int form, int k, int part, int left) {
            if (part > left) {
                return 0;
            }
            return sizes.values(types.fieldType(form, k), part) * sizes.fieldValues(form, k + 1, left - part);
        }

        private long waysAfter(int form, int size, int k) {
            long product = 1;
            for (int field = k + 1; field < types.fields(form); field++) {
                product *= sizes.values(types.fieldType(form, field), parts[size * FIELDS + field]);
            }
            return product;
        }
    }

    /** A value, which may have holes. What is at a path lies at the path's number. */
    private static final class Value {
        private final Types types;
        private final DepthTable depths;
        private final int[] typeAt = new int[PATHS];
        private final int[] constructorAt = new int[PATHS];
        /** How many fields there are at a path; 0 for a hole. */
        private final int[] fieldsAt = new int[PATHS];

        Value(Types types, DepthTable depths) {
            this.types = types;
            this.depths = depths;
        }

        void becomeHole(int type) {
            typeAt[0] = type;
            leaveOpen(0);
        }

        void become(int type, int depth, long number) {
            typeAt[0] = type;
            fillIn(0, depth, number);
        }

        private void leaveOpen(int path) {
            constructorAt[path] = HOLE;
            fieldsAt[path] = 0;
        }

        private void fillIn(int path, int depth, long number) {
            int type = typeAt[path];
            long rest = number;
            int c = 0;
            while (c < types.constructors(type) - 1
                    && rest >= depths.formValues(Types.form(type, c), depth)) {
                rest -= depths.formValues(Types.form(type, c), depth);
                c++;
            }
            place(path, c);
            if (depth == 0) {
                return;
            }
            int form = Types.form(type, c);
            for (int k = 0; k < fieldsAt[path]; k++) {
                long later = depths.fieldValues(form, k + 1, depth);
                if (later > 0) {
                    fillIn(Paths.toField(path, k), depth - 1, rest / later);
                    rest %= later;
                }
            }
        }

        /** Puts a constructor with holes as fields at a path. */
        private void place(int path, int c) {
            int form = Types.form(typeAt[path], c);
            constructorAt[path] = c;
            fieldsAt[path] = types.fields(form);
            for (int k = 0; k < fieldsAt[path]; k++) {
                int field = Paths.toField(path, k);
                if (field < PATHS) {
                    typeAt[field] = types.fieldType(form, k);
                    leaveOpen(field);
                }
            }
        }

        /** Goes on to the next constructor that may stand at a path; if there is none, there is a hole again. */
        boolean advance(int path, int depth) {
            int type = typeAt[path];
            boolean mayHaveFields = Paths.steps(path) < depth;
            int from = constructorAt[path] == HOLE ? 0 : constructorAt[path] + 1;
            for (int c = from; c < types.constructors(type); c++) {
                if (mayHaveFields || types.fields(Types.form(type, c)) == 0) {
                    place(path, c);
                    return true;
                }
            }
            leaveOpen(path);
            return false;
        }

        /** How many values of a depth or less it stands for: 0 if a hole can't be filled. */
        long standsFor(int depth) {
            return waysToFill(0, depth);
        }

        private long waysToFill(int path, int depth) {
            if (constructorAt[path] == HOLE) {
                return depths.values(typeAt[path], depth);
            }
            long product = 1;
            if (depth > 0) {
                for (int k = 0; k < fieldsAt[path]; k++) {
                    product = cappedProduct(product, waysToFill(Paths.toField(path, k), depth - 1));
                }
            }
            return product;
        }

        void writeTo(Row row) {
            row.clear();
            writePart(row, 0, 0);
        }

        private void writePart(Row row, int path, int height) {
            row.add(constructorAt[path]);
            if (height < MAX_DEPTH) {
                for (int k = 0; k < fieldsAt[path]; k++) {
                    writePart(row, Paths.toField(path, k), height + 1);
                }
            }
        }

        /** Evaluates TEST. */
        int hasConstructor(int path, int c) {
            int reached = goAlong(path);
            if (reached == NOTHING) {
                return FALSE;
            }
            if (reached != path || constructorAt[path] == HOLE) {
                return reached;
            }
            return constructorAt[path] == c ? TRUE : FALSE;
        }

        /** Evaluates SAME. */
        int isAlike(int p, int q) {
            int first = goAlong(p);
            if (first != p && first != NOTHING) {
                return first;
            }
            int second = goAlong(q);
            if (second != q && second != NOTHING) {
                return second;
            }
            if (first == NOTHING || second == NOTHING) {
                return first == second ? TRUE : FALSE;
            }
            return compare(p, q, 0);
        }

        private int compare(int p, int q, int height) {
            if (constructorAt[p] == HOLE) {
                return p;
            }
            if (constructorAt[q] == HOLE) {
                return q;
            }
            if (constructorAt[p] != constructorAt[q] || fieldsAt[p] != fieldsAt[q]) {
                return FALSE;
            }
            int answer = TRUE;
            if (height < MAX_DEPTH) {
                for (int k = 0; k < fieldsAt[p] && answer == TRUE; k++) {
                    answer = compare(Paths.toField(p, k), Paths.toField(q, k), height + 1);
                }
            }
            return answer;
        }

        /**
         * Answers the path itself if there is something, which may be a hole, for nobody has asked
         * for its constructor yet; NOTHING; or the path of a hole on the way.
         */
        private int goAlong(int path) {
            for (int steps = Paths.steps(path); steps > 0; steps--) {
                int here = path >> 2 * steps;
                int next = path >> 2 * (steps - 1);
                if (constructorAt[here] == HOLE) {
                    return here;
                }
                if ((next & 3) > fieldsAt[here]) {
                    return NOTHING;
                }
            }
            return path;
        }
    }

    /** The properties that have been made since the pile was empty, and which of them lie on it. */
    private static final class Pile {
        private final int[] kind = new int[MAX_PROPERTIES];
        private final int[] first = new int[MAX_PROPERTIES];
        private final int[] second = new int[MAX_PROPERTIES];
        private final int[] lying = new int[MAX_PROPERTIES];
        private int made = 0;
        private int height = 0;

        static int operands(int what) {
            return what == NOT ? 1 : 2;
        }

        int made() {
            return made;
        }

        int height() {
            return height;
        }

        void clear() {
            made = 0;
            height = 0;
        }

        int put(int kindOfIt, int x, int y) {
            kind[made] = kindOfIt;
            first[made] = x;
            second[made] = y;
            lying[height] = made;
            made++;
            height++;
            return height;
        }

        int join(int what) {
            int x = lying[height - operands(what)];
            int y = lying[height - 1];
            height -= operands(what);
            return put(what, x, y);
        }

        int evaluateTopmost(Value value) {
            return evaluate(lying[height - 1], value);
        }

        /** What a property is made of was made before it, so that this goes no deeper than there are properties. */
        private int evaluate(int property, Value value) {
            int x = first[property];
            int y = second[property];
            switch (kind[property]) {
                case TEST:
                    return value.hasConstructor(x, y);
                case SAME:
                    return value.isAlike(x, y);
                case NOT:
                    return negate(evaluate(x, value));
                default:
                    int answer = evaluate(x, value);
                    int leavesItToY = kind[property] == OR ? FALSE : TRUE;
                    return answer == leavesItToY ? evaluate(y, value) : answer;
            }
        }

        private static int negate(int answer) {
            switch (answer) {
                case TRUE:
                    return FALSE;
                case FALSE:
                    return TRUE;
                default:
                    return answer;
            }
        }
    }

    private enum Outcome {
        HELD, REFUTED, FAILED
    }

    /**
     * Refines without recursion, since as many holes may be filled at once as a value has
     * constructors: they lie in the order in which they were asked for.
     */
    private static final class Refining {
        private final Value value;
        private final Pile pile;
        private final int[] asked = new int[MAX_SHOWN];
        private int open = 0;
        private int evaluations = 0;
        private long passes = 0;

        Refining(Value value, Pile pile) {
            this.value = value;
            this.pile = pile;
        }

        int evaluations() {
            return evaluations;
        }

        long passes() {
            return passes;
        }

        Outcome run(int type, int depth) {
            value.becomeHole(type);
            open = 0;
            evaluations = 0;
            passes = 0;
            boolean another = true;
            while (another && evaluations < MAX_EVALUATIONS) {
                int answer = pile.evaluateTopmost(value);
                evaluations++;
                if (answer == TRUE) {
                    passes = cappedSum(passes, value.standsFor(depth));
                } else if (answer == FALSE) {
                    if (value.standsFor(depth) > 0) {
                        return Outcome.REFUTED;
                    }
                } else if (open < MAX_SHOWN) {
                    asked[open] = answer;
                    open++;
                }
                another = advance(depth);
            }
            return another ? Outcome.FAILED : Outcome.HELD;
        }

        /** Goes on to the next partial value, by the hole asked for latest that can still become something else. */
        private boolean advance(int depth) {
            while (open > 0) {
                if (value.advance(asked[open - 1], depth)) {
                    return true;
                }
                open--;
            }
            return false;
        }
    }
}
