/** Counts the answers that are not the ones that are due. */
final class Expect {
    private static int wrong = 0;

    private Expect() {
    }

    interface Call {
        long answer();
    }

    static void answers(String call, long got, long due) {
        if (got != due) {
            wrong++;
            System.out.println(call + " answered " + got + ", due is " + due);
        }
    }

    static void texts(String where, String got, String due) {
        if (!got.equals(due)) {
            wrong++;
            System.out.println(where + ": " + got + "\n due is " + due);
        }
    }

    static String outcome(Call call) {
        try {
            return "answered " + call.answer();
        } catch (RuntimeException e) {
            return "threw " + e.getClass().getSimpleName();
        }
    }

    static void fails(String call, Class<? extends RuntimeException> due, Call body) {
        texts(call, outcome(body), "threw " + due.getSimpleName());
    }

    static void noSuchIndex(String call, Call body) {
        fails(call, IndexOutOfBoundsException.class, body);
    }

    static void badArgument(String call, Call body) {
        fails(call, IllegalArgumentException.class, body);
    }

    static void badState(String call, Call body) {
        fails(call, IllegalStateException.class, body);
    }

    static void refuted(String call, LazyTester x, int type, int depth) {
        texts(call, outcome(() -> x.refine(type, depth) ? 1 : 0), "answered 0");
    }

    static void notRefuted(String call, LazyTester x, int type, int depth) {
        texts(call, outcome(() -> x.refine(type, depth) ? 1 : 0), "answered 1");
    }

    static void refiningFails(String call, LazyTester x, int type, int depth) {
        badState(call, () -> x.refine(type, depth) ? 1 : 0);
    }

    /** What is shown must be exactly this, with nothing before and behind it. */
    static void shows(String where, LazyTester x, int... due) {
        for (int j = 0; j < due.length; j++) {
            answers(where + ": shown(" + j + ")", x.shown(j), due[j]);
        }
        answers(where + ": shown behind the end", x.shown(due.length), LazyTester.NONE);
        answers(where + ": shown(-1)", x.shown(-1), LazyTester.NONE);
    }

    static void counts(String where, LazyTester x, int evaluated, long passed) {
        answers(where + ": evaluated()", x.evaluated(), evaluated);
        answers(where + ": passed()", x.passed(), passed);
    }

    static void end() {
        if (wrong != 0) {
            System.exit(1);
        }
    }
}
