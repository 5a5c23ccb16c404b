import java.lang.reflect.Constructor;
import java.lang.reflect.Field;
import java.lang.reflect.Method;
import java.lang.reflect.Modifier;
import java.util.Set;
import java.util.TreeSet;

/** The public face: what the document lists, and nothing else. */
public final class FaceTest {
    private static final String INDEX = "IndexOutOfBoundsException";
    private static final String ARGUMENT = "IllegalArgumentException";
    private static final String STATE = "IllegalStateException";

    public static void main(String[] args) {
        members();
        constants();
        Expect.end();
    }

    private static void members() {
        Set<String> due = new TreeSet<>(Set.of(
                "public LazyTester()",
                "public static final int NONE",
                "public static final int HOLE",
                "public static final long MANY",
                "public int constructor(int, int, int, int, int)" + thrown(INDEX, ARGUMENT, STATE),
                "public long count(int, int)" + thrown(INDEX, ARGUMENT),
                "public int show(int, int, long)" + thrown(INDEX, ARGUMENT, STATE),
                "public long sized(int, int)" + thrown(INDEX, ARGUMENT),
                "public int showSized(int, int, long)" + thrown(INDEX, ARGUMENT, STATE),
                "public int shown(int)",
                "public int test(int, int)" + thrown(ARGUMENT, STATE),
                "public int same(int, int)" + thrown(ARGUMENT, STATE),
                "public int combine(int)" + thrown(ARGUMENT, STATE),
                "public void discard()",
                "public int check(int, int)" + thrown(INDEX, ARGUMENT, STATE),
                "public boolean refine(int, int)" + thrown(INDEX, ARGUMENT, STATE),
                "public int evaluated()",
                "public long passed()"));
        Expect.texts("the class", Modifier.toString(LazyTester.class.getModifiers()), "public final");
        Expect.texts("the face", visibleMembers().toString(), due.toString());
    }

    private static String thrown(String... names) {
        return " throws " + String.join(", ", names);
    }

    private static void constants() {
        Expect.answers("NONE", LazyTester.NONE, -1);
        Expect.answers("HOLE", LazyTester.HOLE, -2);
        Expect.answers("MANY", LazyTester.MANY, 1000000000000000L);
    }

    private static Set<String> visibleMembers() {
        Set<String> members = new TreeSet<>();
        for (Constructor<?> c : LazyTester.class.getDeclaredConstructors()) {
            if (!Modifier.isPrivate(c.getModifiers())) {
                members.add(Modifier.toString(c.getModifiers()) + " LazyTester("
                        + names(c.getParameterTypes()) + ")" + throwsOf(c.getExceptionTypes()));
            }
        }
        for (Field f : LazyTester.class.getDeclaredFields()) {
            if (!Modifier.isPrivate(f.getModifiers())) {
                members.add(Modifier.toString(f.getModifiers()) + " " + f.getType() + " " + f.getName());
            }
        }
        for (Method m : LazyTester.class.getDeclaredMethods()) {
            if (!Modifier.isPrivate(m.getModifiers())) {
                members.add(Modifier.toString(m.getModifiers()) + " " + m.getReturnType() + " " + m.getName() + "("
                        + names(m.getParameterTypes()) + ")" + throwsOf(m.getExceptionTypes()));
            }
        }
        return members;
    }

    private static String throwsOf(Class<?>[] types) {
        return types.length == 0 ? "" : " throws " + names(types);
    }

    private static String names(Class<?>[] types) {
        StringBuilder s = new StringBuilder();
        for (Class<?> type : types) {
            s.append(s.length() == 0 ? "" : ", ").append(type.getSimpleName());
        }
        return s.toString();
    }
}
