import java.lang.reflect.Field;
import java.lang.reflect.Method;
import java.lang.reflect.Modifier;
import java.nio.file.Files;
import java.nio.file.Path;
import java.util.Map;
import java.util.Set;
import java.util.TreeMap;
import java.util.TreeSet;
import java.util.regex.Matcher;
import java.util.regex.Pattern;

/**
 * The rules of LANGUAGE.md, from the first to the last, as far as the class or a search of its text
 * can tell. Some checks ask for more than the rule does, because the plainer form can be checked:
 * every loop is a for loop that counts up, every array field is final, nothing stands behind a dot.
 */
public final class LanguageTest {
    private static final String SOURCE = "src/main/java/TrustPaths.java";
    private static final String CONSTANT = "[A-Z][A-Z_]*";
    private static final int MOST_FIELDS = 40;
    private static final int MOST_PARAMETERS = 7;
    private static final int MOST_LINES = 60;
    private static final int DEEPEST = 6;
    private static final Pattern METHOD =
        Pattern.compile("\\b(?:public|private)[\\w\\s]*\\s(\\w+)\\s*\\([^()]*\\)\\s*\\{");
    private static final Pattern CALL = Pattern.compile("\\b(\\w+)\\(");
    private static final Pattern LOOP = Pattern.compile("\\bfor\\s*\\(");
    private static final Pattern COUNTER = Pattern.compile(
        "int (\\w+) = [^;]+; (?:[^;|?]*&& )?(\\w+) <=? (" + CONSTANT + "|made); (\\w+)\\+\\+\\)");

    private static int wrong = 0;
    private static String code;
    private static final Map<String, String> BODIES = new TreeMap<>();

    public static void main(String[] args) throws Exception {
        String source = Files.readString(Path.of(SOURCE));
        code = source.replaceAll("(?s)/\\*.*?\\*/", "").replaceAll("//[^\n]*", "");
        findBodies();
        oneClass();
        types();
        noLibrary();
        arrays();
        constants();
        noWords();
        divisors();
        noRings();
        loops();
        sizes();
        if (wrong > 0) {
            System.exit(1);
        }
    }

    private static void fault(int rule, String text) {
        wrong++;
        System.out.println("rule " + rule + ": " + text);
    }

    private static boolean has(String text, String pattern) {
        return Pattern.compile(pattern).matcher(text).find();
    }

    private static int count(String pattern) {
        Matcher found = Pattern.compile(pattern).matcher(code);
        int number = 0;
        while (found.find()) {
            number++;
        }
        return number;
    }

    /** The text of each method, without which the other checks would look at nothing. */
    private static void findBodies() {
        Matcher method = METHOD.matcher(code);
        while (method.find()) {
            BODIES.merge(method.group(1), upTo(code, method.end(), '{', '}'), String::concat);
        }
        for (Method m : TrustPaths.class.getDeclaredMethods()) {
            if (!BODIES.containsKey(m.getName())) {
                fault(0, "the source of " + m.getName() + " was not found");
            }
        }
    }

    /** From a place after an opening sign up to the sign that closes it. */
    private static String upTo(String text, int from, char opening, char closing) {
        int open = 1;
        int at = from;
        while (open > 0) {
            open += text.charAt(at) == opening ? 1 : text.charAt(at) == closing ? -1 : 0;
            at++;
        }
        return text.substring(from, at);
    }

    private static void oneClass() {
        if (count("\\bclass\\b") != 1 || has(code, "\\b(interface|enum|record|package)\\b")) {
            fault(1, "there is more than one class, or a package line");
        }
        if (TrustPaths.class.getDeclaredClasses().length > 0) {
            fault(1, "the class has nested classes");
        }
        if (TrustPaths.class.getModifiers() != (Modifier.PUBLIC | Modifier.FINAL)) {
            fault(1, "the class is not public and final alone");
        }
        if (TrustPaths.class.getSuperclass() != Object.class || TrustPaths.class.getInterfaces().length > 0) {
            fault(1, "the class is made from another one");
        }
        Set<String> names = new TreeSet<>();
        for (Method m : TrustPaths.class.getMethods()) {
            names.add(m.getName());
        }
        for (Method m : TrustPaths.class.getDeclaredMethods()) {
            if (Modifier.isPrivate(m.getModifiers()) && names.contains(m.getName())) {
                fault(1, "a private method bears the name of a public one: " + m.getName());
            }
        }
    }

    private static void types() {
        for (Field f : TrustPaths.class.getDeclaredFields()) {
            if (!isAllowed(f.getType(), true)) {
                fault(2, "field " + f.getName() + " has a type that is ruled out");
            }
        }
        for (Method m : TrustPaths.class.getDeclaredMethods()) {
            if (m.getReturnType() != void.class && !isAllowed(m.getReturnType(), false)) {
                fault(2, m.getName() + " answers what is ruled out");
            }
            for (Class<?> type : m.getParameterTypes()) {
                if (!isAllowed(type, Modifier.isPrivate(m.getModifiers()))) {
                    fault(2, m.getName() + " takes what is ruled out");
                }
            }
        }
        if (has(code, "\\b(float|double|var)\\b") || has(code, "\\d\\.|\\.\\d|[\"']|\\]\\s*\\[")) {
            fault(2, "the source has a type that is ruled out");
        }
    }

    private static boolean isAllowed(Class<?> type, boolean mayBeArray) {
        Class<?> one = type.isArray() && mayBeArray ? type.getComponentType() : type;
        return one.isPrimitive() && one != float.class && one != double.class;
    }

    /** Every class of the library has a name like Math, and every one of its methods stands behind a dot. */
    private static void noLibrary() {
        Matcher name = Pattern.compile("\\b[A-Z]\\w*\\b").matcher(code);
        while (name.find()) {
            if (!name.group().equals("TrustPaths") && !name.group().matches(CONSTANT)) {
                fault(3, "the source names " + name.group());
            }
        }
        if (code.contains(".") || has(code, "\\b(import|this|super)\\b")) {
            fault(3, "the source reaches behind a dot, or imports");
        }
        for (String body : BODIES.values()) {
            Matcher call = CALL.matcher(body);
            while (call.find()) {
                if (!BODIES.containsKey(call.group(1))) {
                    fault(3, "the source calls " + call.group(1));
                }
            }
        }
    }

    private static void arrays() {
        String made = "(?m)^ {4}private final (\\w+)\\[\\] \\w+ = new \\1\\[" + CONSTANT + "\\];$";
        if (count("\\bnew\\b") != count(made)) {
            fault(4, "an array is made elsewhere than in a field's initialiser");
        }
        if (has(code, "=\\s*\\{|\\]\\s*\\{") || has(code, "\\bnull\\b")) {
            fault(4, "the source has a list of values, or null");
        }
        for (Field f : TrustPaths.class.getDeclaredFields()) {
            boolean isFinal = Modifier.isFinal(f.getModifiers());
            if (f.getType().isArray() && (!isFinal || has(code, "[=!]= *" + f.getName() + "\\b(?!\\[)"))) {
                fault(4, "array " + f.getName() + " may change to another one, or is compared");
            }
        }
        for (String name : BODIES.keySet()) {
            if (has(BODIES.get(name), "\\[\\]")) {
                fault(4, name + " has a local variable that names an array");
            }
        }
    }

    private static void constants() {
        for (Field f : TrustPaths.class.getDeclaredFields()) {
            boolean number = f.getType() == int.class || f.getType() == long.class;
            if (Modifier.isStatic(f.getModifiers()) && !(Modifier.isFinal(f.getModifiers()) && number)) {
                fault(5, "static field " + f.getName() + " is not a constant");
            }
        }
        String constant = "(?m)^ {4}(public|private) static final (int|long) " + CONSTANT
            + " = (-?\\d+|" + CONSTANT + ")( [-+*] (\\d+|" + CONSTANT + "))*;$";
        if (count("\\bstatic\\b") != count(constant)) {
            fault(5, "something static is not a constant, or not of numbers alone");
        }
    }

    private static void noWords() {
        if (has(code, "\\b(throws?|try|catch|finally|synchronized|assert|instanceof)\\b")) {
            fault(6, "the source has a word that is ruled out");
        }
        if (code.contains("->") || code.contains("::")) {
            fault(6, "the source has a lambda or a method reference");
        }
        Matcher cast = Pattern.compile("\\(\\s*(\\w+(\\[\\])?)\\s*\\)\\s*[\\w(]").matcher(code);
        while (cast.find()) {
            if (cast.group(1).matches("TrustPaths|.*\\]")) {
                fault(6, "the source has a cast: " + cast.group());
            }
        }
    }

    /** A divisor that is a constant cannot be 0: the compiler refuses it. Indexes are left to the other tests. */
    private static void divisors() {
        if (has(code, "[/%](?! (KEYS|NAMES)\\b)")) {
            fault(7, "something is divided by what is not a constant");
        }
    }

    private static void noRings() {
        for (String name : BODIES.keySet()) {
            if (depth(name, 1) > DEEPEST) {
                fault(8, "calls from " + name + " go too deep (rule 10), or in a ring");
            }
        }
    }

    /** How many methods deep the calls go, this one counted; a ring goes deeper than is allowed. */
    private static int depth(String name, int above) {
        int deepest = above;
        Matcher call = CALL.matcher(BODIES.get(name));
        while (above <= DEEPEST && call.find()) {
            if (BODIES.containsKey(call.group(1))) {
                deepest = Math.max(deepest, depth(call.group(1), above + 1));
            }
        }
        return deepest;
    }

    /** Every loop counts up by one to a constant, or to made, and changes its counter nowhere else. */
    private static void loops() {
        if (has(code, "\\b(while|do)\\b")) {
            fault(8, "a loop is not a for loop");
        }
        for (Map.Entry<String, String> method : BODIES.entrySet()) {
            String body = method.getValue();
            Matcher loop = LOOP.matcher(body);
            while (loop.find()) {
                counts(method.getKey(), body, loop.end());
            }
            boolean makes = method.getKey().equals("make") || method.getKey().equals("TrustPaths");
            if (!makes && (changes(body, "made") || has(body, "\\bmake\\("))) {
                fault(8, method.getKey() + " changes made, to which loops count");
            }
        }
        if (has(BODIES.get("make"), "\\bfor\\b")) {
            fault(8, "make changes made, and has a loop");
        }
    }

    private static void counts(String name, String body, int from) {
        String head = upTo(body, from, '(', ')');
        Matcher counter = COUNTER.matcher(head);
        if (!counter.matches()) {
            fault(8, name + " has a loop without a counter: for (" + head);
            return;
        }
        String variable = counter.group(1);
        if (!counter.group(2).equals(variable) || !counter.group(4).equals(variable)) {
            fault(8, name + " looks at another variable than it counts: for (" + head);
        }
        if (!body.startsWith(" {", from + head.length())) {
            fault(8, name + " has a loop without braces: for (" + head);
            return;
        }
        String inside = upTo(body, from + head.length() + 2, '{', '}');
        if (changes(inside, variable)) {
            fault(8, name + " changes its counter inside the loop: " + variable);
        }
    }

    private static boolean changes(String text, String variable) {
        String after = "\\b" + variable + "\\s*(\\+\\+|--|(<<|>>>?|[-+*/%&|^])?=(?!=))";
        return has(text, after) || has(text, "(\\+\\+|--)\\s*" + variable + "\\b");
    }

    private static void sizes() {
        int fields = 0;
        for (Field f : TrustPaths.class.getDeclaredFields()) {
            fields += Modifier.isStatic(f.getModifiers()) ? 0 : 1;
        }
        if (fields > MOST_FIELDS) {
            fault(10, "the class has " + fields + " fields");
        }
        for (Method m : TrustPaths.class.getDeclaredMethods()) {
            if (m.getParameterCount() > MOST_PARAMETERS) {
                fault(10, m.getName() + " takes too many parameters");
            }
        }
        for (String name : BODIES.keySet()) {
            if (BODIES.get(name).split("\n").length > MOST_LINES) {
                fault(10, name + " is too long");
            }
            plainArguments(name);
        }
    }

    /** No call stands inside the arguments of another. */
    private static void plainArguments(String name) {
        String body = BODIES.get(name);
        Matcher call = CALL.matcher(body);
        while (call.find()) {
            String arguments = upTo(body, call.end(), '(', ')');
            if (CALL.matcher(arguments).find()) {
                fault(10, name + " has a call inside a call: " + call.group(1) + "(" + arguments);
            }
        }
    }
}
