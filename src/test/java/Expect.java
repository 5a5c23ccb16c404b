/** Counts the answers that are not the ones that are due. */
final class Expect {
    private static int wrong = 0;

    private Expect() {
    }

    interface Call {
        long answer();
    }

    interface Act {
        void run();
    }

    static void answers(String call, long got, long due) {
        if (got != due) {
            wrong++;
            System.out.println(call + " answered " + got + ", due is " + due);
        }
    }

    static void fails(String call, Class<? extends RuntimeException> due, Call body) {
        String got;
        try {
            got = "answered " + body.answer();
        } catch (RuntimeException e) {
            if (e.getClass() == due) {
                return;
            }
            got = "threw " + e;
        }
        wrong++;
        System.out.println(call + " " + got + ", due is " + due.getSimpleName());
    }

    static void noSuchIndex(String call, Call body) {
        fails(call, IndexOutOfBoundsException.class, body);
    }

    static void badArgument(String call, Call body) {
        fails(call, IllegalArgumentException.class, body);
    }

    static void badState(String call, Call body) {
        fails(call, IllegalStateException.class, body);
    }

    /** What is shown must be exactly this, with nothing before and behind it. */
    static void shows(String where, LazyTester x, int... due) {
        for (int j = 0; j < due.length; j++) {
            answers(where + ": shown(" + j + ")", x.shown(j), due[j]);
        }
        answers(where + ": shown behind the end", x.shown(due.length), LazyTester.NONE);
        answers(where + ": shown(-1)", x.shown(-1), LazyTester.NONE);
    }

    static void counts(String where, LazyTester x, int evaluated, long passed) {
        answers(where + ": evaluated()", x.evaluated(), evaluated);
        answers(where + ": passed()", x.passed(), passed);
    }

    static void end() {
        if (wrong != 0) {
            System.exit(1);
        }
    }
}
