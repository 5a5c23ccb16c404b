import java.math.BigInteger;
import java.util.ArrayList;
import java.util.List;

/**
 * The document's words once more, written to be compared with, not to be fast: values are listed one
 * by one where that can be done, and numbers are exact.
 */
final class Model {
    static final BigInteger MANY = BigInteger.valueOf(LazyTester.MANY);

    /** A value; a hole if its constructor is HOLE. */
    static final class Tree {
        int constructor;
        final int type;
        final int height;
        List<Tree> fields = new ArrayList<>();

        Tree(int type, int constructor, int height) {
            this.type = type;
            this.constructor = constructor;
            this.height = height;
        }

        void list(List<Integer> out) {
            out.add(constructor);
            for (Tree f : fields) {
                f.list(out);
            }
        }
    }

    /** The answer of evaluating: a hole, or (if that is null) a truth. */
    record Answer(Tree hole, boolean truth) {
    }

    interface Property {
        Answer evaluate(Tree value);
    }

    static final class Refuted extends Exception {
        private static final long serialVersionUID = 1;
    }

    final List<List<int[]>> types = new ArrayList<>();
    /** What countOfSize has found for the types that there are; null for what it has not. */
    private Long[][] countsOfSize = new Long[6][13];
    final List<Property> pile = new ArrayList<>();
    List<Integer> shown = new ArrayList<>();
    int made = 0;
    int evaluated = 0;
    BigInteger passed = BigInteger.ZERO;

    Model() {
        for (int t = 0; t < 6; t++) {
            types.add(new ArrayList<>());
        }
    }

    private static void need(boolean holds, RuntimeException otherwise) {
        if (!holds) {
            throw otherwise;
        }
    }

    private void needType(int type) {
        need(type >= 0 && type < 6, new IndexOutOfBoundsException());
    }

    private void needTypeAndDepth(int type, int depth) {
        needType(type);
        need(depth >= 0 && depth <= 4, new IllegalArgumentException());
    }

    long constructor(int type, int fields, int a, int b, int c) {
        needType(type);
        need(fields >= 0 && fields <= 3, new IllegalArgumentException());
        int[] given = {a, b, c};
        int[] form = new int[fields];
        for (int k = 0; k < fields; k++) {
            needType(given[k]);
            form[k] = given[k];
        }
        for (int k = fields; k < 3; k++) {
            need(given[k] == -1, new IllegalArgumentException());
        }
        need(types.get(type).size() < 4, new IllegalStateException());
        types.get(type).add(form);
        countsOfSize = new Long[6][13];
        return types.get(type).size() - 1;
    }

    BigInteger exactCount(int type, int depth) {
        BigInteger sum = BigInteger.ZERO;
        for (int[] form : types.get(type)) {
            sum = sum.add(formCount(form, depth));
        }
        return sum;
    }

    private BigInteger formCount(int[] form, int depth) {
        if (form.length > 0 && depth == 0) {
            return BigInteger.ZERO;
        }
        BigInteger product = BigInteger.ONE;
        for (int t : form) {
            product = product.multiply(exactCount(t, depth - 1));
        }
        return product;
    }

    long count(int type, int depth) {
        needTypeAndDepth(type, depth);
        return exactCount(type, depth).min(MANY).longValueExact();
    }

    long show(int type, int depth, long number) {
        needTypeAndDepth(type, depth);
        BigInteger n = BigInteger.valueOf(number);
        need(number >= 0 && number < LazyTester.MANY && n.compareTo(exactCount(type, depth)) < 0,
                new IllegalStateException());
        shown = new ArrayList<>();
        numbered(type, depth, n, 0).list(shown);
        return shown.size();
    }

    private Tree numbered(int type, int depth, BigInteger number, int height) {
        BigInteger rest = number;
        int c = 0;
        for (int[] form : types.get(type)) {
            BigInteger ways = formCount(form, depth);
            if (rest.compareTo(ways) < 0) {
                Tree tree = new Tree(type, c, height);
                for (int k = form.length - 1; k >= 0; k--) {
                    BigInteger[] parts = rest.divideAndRemainder(exactCount(form[k], depth - 1));
                    tree.fields.add(0, numbered(form[k], depth - 1, parts[1], height + 1));
                    rest = parts[0];
                }
                return tree;
            }
            rest = rest.subtract(ways);
            c++;
        }
        throw new AssertionError();
    }

    /** In how many ways fields from k on can have a size together. */
    private long waysOfSize(int[] form, int k, int together) {
        if (k == form.length) {
            return together == 0 ? 1 : 0;
        }
        long ways = 0;
        for (int s = 1; s <= together; s++) {
            ways += countOfSize(form[k], s) * waysOfSize(form, k + 1, together - s);
        }
        return ways;
    }

    private long countOfSize(int type, int size) {
        if (countsOfSize[type][size] == null) {
            long sum = 0;
            for (int[] form : types.get(type)) {
                sum += waysOfSize(form, 0, size - 1);
            }
            countsOfSize[type][size] = sum;
        }
        return countsOfSize[type][size];
    }

    /** All values of a size, in order, as what is shown of them. */
    List<List<Integer>> ofSize(int type, int size) {
        List<List<Integer>> all = new ArrayList<>();
        for (int c = 0; c < types.get(type).size(); c++) {
            int[] form = types.get(type).get(c);
            List<Integer> begin = List.of(c);
            int left = size - 1;
            if (form.length == 0 && left == 0) {
                all.add(begin);
            } else if (form.length == 1) {
                all.addAll(joined(begin, form, left));
            } else if (form.length == 2) {
                for (int s = 1; s < left; s++) {
                    all.addAll(joined(begin, form, s, left - s));
                }
            } else if (form.length == 3) {
                for (int s = 1; s < left; s++) {
                    for (int t = 1; s + t < left; t++) {
                        all.addAll(joined(begin, form, s, t, left - s - t));
                    }
                }
            }
        }
        return all;
    }

    private List<List<Integer>> joined(List<Integer> begin, int[] form, int... sizes) {
        for (int k = 0; k < form.length; k++) {
            if (sizes[k] < 1 || countOfSize(form[k], sizes[k]) == 0) {
                return List.of();
            }
        }
        List<List<Integer>> all = List.of(begin);
        for (int k = 0; k < form.length; k++) {
            List<List<Integer>> longer = new ArrayList<>();
            List<List<Integer>> fields = ofSize(form[k], sizes[k]);
            for (List<Integer> front : all) {
                for (List<Integer> field : fields) {
                    List<Integer> whole = new ArrayList<>(front);
                    whole.addAll(field);
                    longer.add(whole);
                }
            }
            all = longer;
        }
        return all;
    }

    private void needTypeAndSize(int type, int size) {
        needType(type);
        need(size >= 1 && size <= 12, new IllegalArgumentException());
    }

    long sized(int type, int size) {
        needTypeAndSize(type, size);
        return countOfSize(type, size);
    }

    long showSized(int type, int size, long number) {
        needTypeAndSize(type, size);
        need(number >= 0 && number < countOfSize(type, size), new IllegalStateException());
        shown = ofSize(type, size).get((int) number);
        return size;
    }

    /** The steps of a path, each a field; null if it is none. */
    private static List<Integer> steps(int path) {
        List<Integer> steps = new ArrayList<>();
        int rest = path;
        while (rest > 0 && rest % 4 != 0) {
            steps.add(0, rest % 4 - 1);
            rest /= 4;
        }
        return rest == 0 ? steps : null;
    }

    private static void needPath(int path) {
        List<Integer> steps = steps(path);
        need(steps != null && steps.size() <= 4, new IllegalArgumentException());
    }

    private long put(Property property) {
        need(made < 20, new IllegalStateException());
        made++;
        pile.add(property);
        return pile.size();
    }

    long test(int p, int c) {
        needPath(p);
        need(c >= 0 && c <= 3, new IllegalArgumentException());
        return put(value -> {
            Object at = along(value, p);
            if (at instanceof Answer a) {
                return a;
            }
            Tree tree = (Tree) at;
            if (tree == null) {
                return new Answer(null, false);
            }
            return isHole(tree) ? new Answer(tree, false) : new Answer(null, tree.constructor == c);
        });
    }

    long same(int p, int q) {
        needPath(p);
        needPath(q);
        return put(value -> {
            Object first = along(value, p);
            if (first instanceof Answer a) {
                return a;
            }
            Object second = along(value, q);
            if (second instanceof Answer a) {
                return a;
            }
            if (first == null || second == null) {
                return new Answer(null, first == second);
            }
            return alike((Tree) first, (Tree) second);
        });
    }

    /** What is at a path, null for nothing, or an answer that asks for a hole on the way. */
    private static Object along(Tree value, int path) {
        Tree at = value;
        for (int k : steps(path)) {
            if (isHole(at)) {
                return new Answer(at, false);
            }
            if (k >= at.fields.size()) {
                return null;
            }
            at = at.fields.get(k);
        }
        return at;
    }

    private static boolean isHole(Tree tree) {
        return tree.constructor == LazyTester.HOLE;
    }

    private static Answer alike(Tree a, Tree b) {
        if (isHole(a)) {
            return new Answer(a, false);
        }
        if (isHole(b)) {
            return new Answer(b, false);
        }
        if (a.constructor != b.constructor || a.fields.size() != b.fields.size()) {
            return new Answer(null, false);
        }
        for (int k = 0; k < a.fields.size(); k++) {
            Answer answer = alike(a.fields.get(k), b.fields.get(k));
            if (answer.hole() != null || !answer.truth()) {
                return answer;
            }
        }
        return new Answer(null, true);
    }

    long combine(int what) {
        need(what >= 0 && what <= 2, new IllegalArgumentException());
        need(pile.size() >= (what == 2 ? 1 : 2) && made < 20, new IllegalStateException());
        Property y = pile.remove(pile.size() - 1);
        if (what == 2) {
            return put(value -> {
                Answer a = y.evaluate(value);
                return new Answer(a.hole(), !a.truth());
            });
        }
        Property x = pile.remove(pile.size() - 1);
        return put(value -> {
            Answer a = x.evaluate(value);
            boolean goOn = a.hole() == null && a.truth() == (what == 0);
            return goOn ? y.evaluate(value) : a;
        });
    }

    long discard() {
        pile.clear();
        made = 0;
        return 0;
    }

    long check(int type, int depth) {
        needTypeAndDepth(type, depth);
        need(!pile.isEmpty(), new IllegalStateException());
        BigInteger values = exactCount(type, depth);
        need(values.compareTo(BigInteger.valueOf(1000)) <= 0, new IllegalStateException());
        evaluated = 0;
        passed = BigInteger.ZERO;
        for (int n = 0; n < values.intValue(); n++) {
            Tree tree = numbered(type, depth, BigInteger.valueOf(n), 0);
            evaluated++;
            if (!pile.get(pile.size() - 1).evaluate(tree).truth()) {
                shown = new ArrayList<>();
                tree.list(shown);
                return n;
            }
            passed = passed.add(BigInteger.ONE);
        }
        return -1;
    }

    long refine(int type, int depth) {
        needTypeAndDepth(type, depth);
        need(!pile.isEmpty(), new IllegalStateException());
        evaluated = 0;
        passed = BigInteger.ZERO;
        Tree root = new Tree(type, LazyTester.HOLE, 0);
        try {
            refineFrom(root, depth);
        } catch (Refuted e) {
            shown = new ArrayList<>();
            root.list(shown);
            return 0;
        }
        return 1;
    }

    private void refineFrom(Tree root, int depth) throws Refuted {
        need(evaluated < 2000, new IllegalStateException());
        evaluated++;
        Answer answer = pile.get(pile.size() - 1).evaluate(root);
        Tree hole = answer.hole();
        if (hole == null) {
            BigInteger stands = standsFor(root, depth);
            if (answer.truth()) {
                passed = passed.add(stands);
            } else if (stands.signum() > 0) {
                throw new Refuted();
            }
            return;
        }
        for (int c = 0; c < types.get(hole.type).size(); c++) {
            int[] form = types.get(hole.type).get(c);
            if (form.length == 0 || hole.height < depth) {
                hole.constructor = c;
                hole.fields = new ArrayList<>();
                for (int t : form) {
                    hole.fields.add(new Tree(t, LazyTester.HOLE, hole.height + 1));
                }
                refineFrom(root, depth);
            }
        }
        hole.constructor = LazyTester.HOLE;
        hole.fields = new ArrayList<>();
    }

    private BigInteger standsFor(Tree tree, int depth) {
        if (isHole(tree)) {
            return exactCount(tree.type, depth - tree.height);
        }
        BigInteger product = BigInteger.ONE;
        for (Tree f : tree.fields) {
            product = product.multiply(standsFor(f, depth));
        }
        return product;
    }
}
