/** All promises: long runs of calls, right and wrong ones, answered as the model answers them. */
public final class ModelTest {
    private static final int RUNS = 1500;
    private static final int CALLS = 120;
    private static int wrong = 0;

    private long seed;
    private final LazyTester tester = new LazyTester();
    private final Model model = new Model();

    private ModelTest(long seed) {
        this.seed = seed;
    }

    interface Call {
        long answer();
    }

    public static void main(String[] args) {
        for (int run = 1; run <= RUNS && wrong < 10; run++) {
            new ModelTest(run).run(run);
        }
        if (wrong != 0) {
            System.exit(1);
        }
    }

    /** The same numbers in every run of the tests. */
    private int pick(int n) {
        seed = seed * 6364136223846793005L + 1442695040888963407L;
        return (int) ((seed >>> 33) % n);
    }

    /** Mostly of 0 .. n - 1, at times beside it. */
    private int near(int n) {
        return pick(25) == 0 ? (pick(2) == 0 ? -1 - pick(2) : n + pick(2)) : pick(n);
    }

    private int path(int steps) {
        if (pick(30) == 0) {
            return pick(400) - 20;
        }
        int p = 0;
        for (int i = pick(steps + 1); i > 0; i--) {
            p = 4 * p + 1 + (pick(4) == 0 ? pick(3) : pick(2));
        }
        return p;
    }

    private void run(int run) {
        int types = 1 + pick(6);
        int constructors = 1 + pick(12);
        for (int i = 0; i < constructors; i++) {
            addConstructor(run, types);
        }
        for (int i = 0; i < CALLS && wrong < 10; i++) {
            step(run, types);
        }
    }

    private void addConstructor(int run, int types) {
        int type = near(types);
        int fields = pick(3) == 0 ? 0 : near(4);
        int[] of = new int[3];
        for (int k = 0; k < 3; k++) {
            of[k] = k < fields ? near(types) : pick(60) == 0 ? 0 : -1;
        }
        compare(run, "constructor " + type + " " + fields + " " + of[0] + " " + of[1] + " " + of[2],
                () -> tester.constructor(type, fields, of[0], of[1], of[2]),
                () -> model.constructor(type, fields, of[0], of[1], of[2]));
    }

    private void step(int run, int types) {
        int type = near(types);
        int depth = near(5);
        int p = path(4);
        int q = path(3);
        int c = near(4);
        switch (pick(22)) {
            case 0 -> addConstructor(run, types);
            case 1 -> compare(run, "count " + type + " " + depth,
                    () -> tester.count(type, depth), () -> model.count(type, depth));
            case 2, 3 -> show(run, type, depth);
            case 4 -> sized(run, type);
            case 5, 6, 7 -> compare(run, "test " + p + " " + c, () -> tester.test(p, c), () -> model.test(p, c));
            case 8, 9 -> compare(run, "same " + p + " " + q, () -> tester.same(p, q), () -> model.same(p, q));
            case 10, 11, 12, 13 -> {
                int what = near(3);
                compare(run, "combine " + what, () -> tester.combine(what), () -> model.combine(what));
            }
            case 14 -> {
                tester.discard();
                model.discard();
            }
            case 15, 16, 17 -> compare(run, "check " + type + " " + depth,
                    () -> tester.check(type, depth), () -> model.check(type, depth));
            default -> compare(run, "refine " + type + " " + depth,
                    () -> tester.refine(type, depth) ? 1 : 0, () -> model.refine(type, depth));
        }
    }

    private void show(int run, int type, int depth) {
        long number = pick(10) - 1;
        if (type >= 0 && type < 6 && depth >= 0 && depth <= 4 && pick(3) > 0) {
            long count = model.count(type, depth);
            long wide = ((long) pick(Integer.MAX_VALUE) << 31) + pick(Integer.MAX_VALUE);
            number = pick(3) == 0 ? count - 1 + pick(2) : wide % (count + 1);
        }
        long n = number;
        compare(run, "show " + type + " " + depth + " " + n,
                () -> tester.show(type, depth, n), () -> model.show(type, depth, n));
    }

    private void sized(int run, int type) {
        int size = pick(20) == 0 ? (pick(2) == 0 ? 0 : 13) : 1 + pick(12);
        compare(run, "sized " + type + " " + size, () -> tester.sized(type, size), () -> model.sized(type, size));
        boolean known = type >= 0 && type < 6 && size >= 1 && size <= 12;
        long values = known ? model.sized(type, size) : 0;
        // The model lists all values to find one, so that it takes part only where these are not too many.
        long n = values > 3000 ? (pick(2) == 0 ? -1 : values + pick(2)) : pick((int) values + 2) - 1;
        compare(run, "showSized " + type + " " + size + " " + n,
                () -> tester.showSized(type, size, n), () -> model.showSized(type, size, n));
    }

    private void compare(int run, String call, Call got, Call due) {
        String answer = outcome(got);
        String wanted = outcome(due);
        if (!answer.equals(wanted)) {
            wrong++;
            System.out.println("run " + run + ": " + call + " " + answer + ", due is " + wanted);
        }
        String state = testerState();
        String wantedState = modelState();
        if (!state.equals(wantedState)) {
            wrong++;
            System.out.println("run " + run + ": after " + call + " " + state + ", due is " + wantedState);
        }
    }

    private static String outcome(Call call) {
        try {
            return "answered " + call.answer();
        } catch (RuntimeException e) {
            return "threw " + e.getClass().getSimpleName();
        }
    }

    private String testerState() {
        StringBuilder s = new StringBuilder();
        for (int j = -1; j < 125; j++) {
            s.append(tester.shown(j)).append(' ');
        }
        return s.append(tester.evaluated()).append(' ').append(tester.passed()).toString();
    }

    private String modelState() {
        StringBuilder s = new StringBuilder();
        for (int j = -1; j < 125; j++) {
            s.append(j < 0 || j >= model.shown.size() ? -1 : model.shown.get(j)).append(' ');
        }
        return s.append(model.evaluated).append(' ').append(model.passed.min(Model.MANY)).toString();
    }
}
