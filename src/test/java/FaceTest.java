import java.lang.reflect.Constructor;
import java.lang.reflect.Field;
import java.lang.reflect.Method;
import java.lang.reflect.Modifier;
import java.util.Set;
import java.util.TreeSet;

/** The public face: what the document lists, and nothing else. */
public final class FaceTest {
    public static void main(String[] args) {
        Set<String> due = new TreeSet<>(Set.of(
                "constructor LazyTester[]",
                "int NONE", "int HOLE", "long MANY",
                "int constructor[int, int, int, int, int]",
                "long count[int, int]",
                "int show[int, int, long]",
                "long sized[int, int]",
                "int showSized[int, int, long]",
                "int shown[int]",
                "int test[int, int]",
                "int same[int, int]",
                "int combine[int]",
                "void discard[]",
                "int check[int, int]",
                "boolean refine[int, int]",
                "int evaluated[]",
                "long passed[]"));
        Set<String> got = visibleMembers();
        if (!got.equals(due)) {
            System.out.println("the face is " + got);
        }
        Expect.answers("the face is the document's", got.equals(due) ? 1 : 0, 1);
        Expect.answers("the class is final", Modifier.isFinal(LazyTester.class.getModifiers()) ? 1 : 0, 1);
        Expect.answers("NONE", LazyTester.NONE, -1);
        Expect.answers("HOLE", LazyTester.HOLE, -2);
        Expect.answers("MANY", LazyTester.MANY, 1000000000000000L);
        Expect.end();
    }

    private static Set<String> visibleMembers() {
        Set<String> members = new TreeSet<>();
        for (Constructor<?> c : LazyTester.class.getDeclaredConstructors()) {
            if (!Modifier.isPrivate(c.getModifiers())) {
                members.add("constructor " + c.getName() + types(c.getParameterTypes()));
            }
        }
        for (Field f : LazyTester.class.getDeclaredFields()) {
            if (!Modifier.isPrivate(f.getModifiers())) {
                members.add(f.getType() + " " + f.getName());
            }
        }
        for (Method m : LazyTester.class.getDeclaredMethods()) {
            if (!Modifier.isPrivate(m.getModifiers())) {
                members.add(m.getReturnType() + " " + m.getName() + types(m.getParameterTypes()));
            }
        }
        return members;
    }

    private static String types(Class<?>[] types) {
        return java.util.Arrays.toString(types);
    }
}
