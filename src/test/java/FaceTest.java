import java.lang.reflect.Constructor;
import java.lang.reflect.Field;
import java.lang.reflect.Method;
import java.lang.reflect.Modifier;
import java.nio.file.Files;
import java.nio.file.Path;
import java.util.Arrays;
import java.util.Map;
import java.util.Set;
import java.util.TreeMap;
import java.util.TreeSet;
import java.util.regex.Matcher;
import java.util.regex.Pattern;

/** The members that can be seen from outside, and the rules of LANGUAGE.md that a text search can tell. */
public final class FaceTest {
    private static final String[] FACE = {
        "public static final int BAD", "public static final int NONE", "public static final int FULL",
        "public TrustPaths()",
        "public int make(int, int)", "public int times(int, int, int)", "public int set(int, int, int)",
        "public int revoke(int, int)", "public int hold(int, boolean)", "public int anchor(int, int)",
        "public int distrust(int)", "public int trusted(int, int)", "public int length(int, int)",
        "public int step(int, int, int)", "public int policies(int, int)", "public int count(int)",
        "public int keysOf(int, int, int)", "public int until(int, int)", "public int depending(int, int)",
        "public int narrow(int, int)",
    };
    private static final String[] NOT_WORDS = {
        "import", "package", "float", "double", "String", "Math", "Integer", "System", "Arrays", "null",
        "throw", "try", "catch", "synchronized", "assert", "instanceof",
    };
    private static final int MOST_FIELDS = 40;
    private static final int MOST_PARAMETERS = 7;
    private static final int MOST_LINES = 60;
    private static final int DEEPEST = 6;
    private static final Pattern METHOD =
        Pattern.compile("\\b(?:public|private)[\\w\\s]*\\s(\\w+)\\s*\\([^()]*\\)\\s*\\{");
    private static final Pattern CALL = Pattern.compile("\\b(\\w+)\\(");

    private static int wrong = 0;

    public static void main(String[] args) throws Exception {
        face();
        privateMembers();
        String source = Files.readString(Path.of("src/main/java/TrustPaths.java"));
        String code = source.replaceAll("(?s)/\\*.*?\\*/", "").replaceAll("//[^\n]*", "");
        words(code);
        calls(code);
        if (wrong > 0) {
            System.exit(1);
        }
    }

    private static void fault(String text) {
        wrong++;
        System.out.println(text);
    }

    private static String text(int modifiers, String rest) {
        String before = Modifier.toString(modifiers);
        return before.isEmpty() ? rest : before + " " + rest;
    }

    private static String parameters(Class<?>[] types) {
        StringBuilder text = new StringBuilder("(");
        for (int i = 0; i < types.length; i++) {
            text.append(i == 0 ? "" : ", ").append(types[i].getSimpleName());
        }
        return text.append(")").toString();
    }

    private static void face() {
        Set<String> seen = new TreeSet<>();
        for (Field f : TrustPaths.class.getDeclaredFields()) {
            if (!Modifier.isPrivate(f.getModifiers())) {
                seen.add(text(f.getModifiers(), f.getType().getSimpleName() + " " + f.getName()));
            }
        }
        for (Constructor<?> c : TrustPaths.class.getDeclaredConstructors()) {
            seen.add(text(c.getModifiers(), "TrustPaths" + parameters(c.getParameterTypes())));
        }
        for (Method m : TrustPaths.class.getDeclaredMethods()) {
            if (!Modifier.isPrivate(m.getModifiers())) {
                String rest = m.getReturnType().getSimpleName() + " " + m.getName();
                seen.add(text(m.getModifiers(), rest + parameters(m.getParameterTypes())));
            }
        }
        Set<String> named = new TreeSet<>(Arrays.asList(FACE));
        if (!seen.equals(named)) {
            fault("the face is " + seen + ", due is " + named);
        }
        int modifiers = TrustPaths.class.getModifiers();
        if (modifiers != (Modifier.PUBLIC | Modifier.FINAL)) {
            fault("the class is not public and final alone");
        }
        if (TrustPaths.class.getDeclaredClasses().length > 0) {
            fault("the class has nested classes");
        }
    }

    private static void privateMembers() {
        int fields = 0;
        for (Field f : TrustPaths.class.getDeclaredFields()) {
            Class<?> type = f.getType();
            Class<?> element = type.isArray() ? type.getComponentType() : type;
            if (!element.isPrimitive() || element == float.class || element == double.class) {
                fault("field " + f.getName() + " has a type that is ruled out");
            }
            if (!Modifier.isStatic(f.getModifiers())) {
                fields++;
            } else if (!Modifier.isFinal(f.getModifiers()) || (type != int.class && type != long.class)) {
                fault("static field " + f.getName() + " is not a constant");
            }
        }
        if (fields > MOST_FIELDS) {
            fault("the class has " + fields + " fields");
        }
        Set<String> names = new TreeSet<>();
        for (Method m : TrustPaths.class.getMethods()) {
            names.add(m.getName());
        }
        for (Method m : TrustPaths.class.getDeclaredMethods()) {
            if (Modifier.isPrivate(m.getModifiers()) && names.contains(m.getName())) {
                fault("a private method bears the name of a public one: " + m.getName());
            }
            if (m.getParameterCount() > MOST_PARAMETERS) {
                fault(m.getName() + " takes too many parameters");
            }
        }
    }

    private static void words(String code) {
        for (String word : NOT_WORDS) {
            if (Pattern.compile("\\b" + word + "\\b").matcher(code).find()) {
                fault("the source has the word " + word);
            }
        }
        boolean lambda = Pattern.compile("(?m)^(?!.*\\b(case|default)\\b).*->").matcher(code).find();
        if (lambda || code.contains("::") || code.contains("\"")) {
            fault("the source has a lambda, a method reference or a text");
        }
    }

    private static void calls(String code) {
        Map<String, String> bodies = new TreeMap<>();
        Matcher method = METHOD.matcher(code);
        while (method.find()) {
            String name = method.group(1);
            String body = upTo(code, method.end(), '{', '}');
            bodies.merge(name, body, String::concat);
            if (body.split("\n").length > MOST_LINES) {
                fault(name + " is too long");
            }
            if (!name.equals("TrustPaths") && Pattern.compile("\\bnew\\b").matcher(body).find()) {
                fault(name + " makes something");
            }
        }
        for (Method m : TrustPaths.class.getDeclaredMethods()) {
            if (!bodies.containsKey(m.getName())) {
                fault("the source of " + m.getName() + " was not found");
            }
        }
        for (String name : bodies.keySet()) {
            plainArguments(name, bodies);
            if (depth(name, bodies, 1) > DEEPEST) {
                fault("calls from " + name + " go too deep, or in a ring");
            }
        }
    }

    /** No call stands inside the arguments of another. */
    private static void plainArguments(String name, Map<String, String> bodies) {
        String body = bodies.get(name);
        Matcher call = CALL.matcher(body);
        while (call.find()) {
            String arguments = upTo(body, call.end(), '(', ')');
            if (bodies.containsKey(call.group(1)) && CALL.matcher(arguments).find()) {
                fault(name + " has a call inside a call: " + call.group(1) + "(" + arguments);
            }
        }
    }

    /** From a place after an opening sign up to the sign that closes it. */
    private static String upTo(String text, int from, char opening, char closing) {
        int open = 1;
        int at = from;
        while (open > 0) {
            open += text.charAt(at) == opening ? 1 : text.charAt(at) == closing ? -1 : 0;
            at++;
        }
        return text.substring(from, at);
    }

    /** How many methods deep the calls go, this one counted; a ring goes deeper than is allowed. */
    private static int depth(String name, Map<String, String> bodies, int above) {
        int deepest = above;
        Matcher call = CALL.matcher(bodies.get(name));
        while (above <= DEEPEST && call.find()) {
            if (bodies.containsKey(call.group(1))) {
                deepest = Math.max(deepest, depth(call.group(1), bodies, above + 1));
            }
        }
        return deepest;
    }
}
