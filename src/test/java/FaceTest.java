import java.lang.reflect.Constructor;
import java.lang.reflect.Field;
import java.lang.reflect.Method;
import java.lang.reflect.Modifier;
import java.util.Arrays;
import java.util.Set;
import java.util.TreeSet;

/** The members that can be seen from outside are those of "The public face", and no other ones. */
public final class FaceTest {
    private static final String[] FACE = {
        "public static final int BAD = -1", "public static final int NONE = -2", "public static final int FULL = -3",
        "public TrustPaths()",
        "public int make(int, int)", "public int times(int, int, int)", "public int set(int, int, int)",
        "public int revoke(int, int)", "public int hold(int, boolean)", "public int anchor(int, int)",
        "public int distrust(int)", "public int trusted(int, int)", "public int length(int, int)",
        "public int step(int, int, int)", "public int policies(int, int)", "public int count(int)",
        "public int keysOf(int, int, int)", "public int until(int, int)", "public int depending(int, int)",
        "public int narrow(int, int)",
    };

    public static void main(String[] args) throws Exception {
        String type = Modifier.toString(TrustPaths.class.getModifiers()) + " " + TrustPaths.class.getName();
        Set<String> named = new TreeSet<>(Arrays.asList(FACE));
        Set<String> seen = new TreeSet<>();
        addFields(seen);
        addMethods(seen);
        if (!seen.equals(named) || !type.equals("public final TrustPaths")) {
            System.out.println("the face is " + type + " " + seen + ", due is " + named);
            System.exit(1);
        }
    }

    private static String text(int modifiers, String rest) {
        String before = Modifier.toString(modifiers);
        return before.isEmpty() ? rest : before + " " + rest;
    }

    private static String parameters(Class<?>[] types) {
        StringBuilder text = new StringBuilder("(");
        for (int i = 0; i < types.length; i++) {
            text.append(i == 0 ? "" : ", ").append(types[i].getSimpleName());
        }
        return text.append(")").toString();
    }

    private static void addFields(Set<String> seen) throws Exception {
        for (Field f : TrustPaths.class.getDeclaredFields()) {
            if (!Modifier.isPrivate(f.getModifiers())) {
                Object value = Modifier.isStatic(f.getModifiers()) ? f.get(null) : "not a constant";
                seen.add(text(f.getModifiers(), f.getType().getSimpleName() + " " + f.getName() + " = " + value));
            }
        }
    }

    private static void addMethods(Set<String> seen) {
        for (Constructor<?> c : TrustPaths.class.getDeclaredConstructors()) {
            seen.add(text(c.getModifiers(), "TrustPaths" + parameters(c.getParameterTypes())));
        }
        for (Method m : TrustPaths.class.getDeclaredMethods()) {
            if (!Modifier.isPrivate(m.getModifiers())) {
                String rest = m.getReturnType().getSimpleName() + " " + m.getName();
                seen.add(text(m.getModifiers(), rest + parameters(m.getParameterTypes())));
            }
        }
    }
}
