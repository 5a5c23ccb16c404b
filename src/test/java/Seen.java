/** What the calls tell of an object, as a text, so that two objects can be compared. */
final class Seen {
    private Seen() {
    }

    /** All that can be asked without changing the object. */
    static String of(LazyTester x) {
        StringBuilder s = new StringBuilder();
        for (int type = 0; type < 6; type++) {
            s.append("\n type ").append(type).append(':');
            for (int depth = 0; depth <= 4; depth++) {
                s.append(' ').append(x.count(type, depth));
            }
            s.append(" /");
            for (int size = 1; size <= 12; size++) {
                s.append(' ').append(x.sized(type, size));
            }
        }
        s.append("\n shown:");
        for (int j = -1; j <= 121; j++) {
            s.append(' ').append(x.shown(j));
        }
        return s.append("\n evaluated ").append(x.evaluated()).append(", passed ").append(x.passed()).toString();
    }

    /** What lies on the pile, and how many have been made; changes it. */
    static String pileOf(LazyTester x) {
        StringBuilder s = new StringBuilder("\n pile:");
        String combined = "";
        for (int left = 20; left > 0 && !combined.startsWith("threw"); left--) {
            addMeaning(s, x);
            combined = Expect.outcome(() -> x.combine(0));
            s.append("\n combine ").append(combined);
        }
        for (int left = 20; left >= 0; left--) {
            s.append("\n test ").append(Expect.outcome(() -> x.test(0, 0)));
        }
        return s.toString();
    }

    /** What the topmost property is like on the values of all types. */
    private static void addMeaning(StringBuilder s, LazyTester x) {
        for (int type = 0; type < 6; type++) {
            int t = type;
            s.append("\n check ").append(Expect.outcome(() -> x.check(t, 2)));
            s.append(", refine ").append(Expect.outcome(() -> x.refine(t, 2) ? 1 : 0));
            s.append(", passed ").append(x.passed());
        }
    }
}
