import java.io.IOException;
import java.lang.reflect.Constructor;
import java.lang.reflect.Field;
import java.lang.reflect.Method;
import java.lang.reflect.Modifier;
import java.nio.file.Files;
import java.nio.file.Path;
import java.util.Map;
import java.util.Set;
import java.util.TreeMap;
import java.util.TreeSet;
import java.util.regex.Matcher;
import java.util.regex.Pattern;

/** The public face of the document, and the rules of LANGUAGE.md that can be looked after here. */
public final class LanguageTest {
    private static final String CONSTANTS = "BAD -1 NO_MATCH -2 DROP 0 ACCEPT 1 TCP 0 UDP 1 ANY 2 SYN 1 ACK 2 FIN 4 RST 8 "
        + "WINDOW 32 V_DROP 0 V_NEW 1 V_PASS 2 V_INVALID 3 V_FULL 4 V_CLOSED 5 NONE 0 SYN_SENT 1 SYN_RECV 2 "
        + "ESTABLISHED 3 FIN_ORIG 4 FIN_REPLY 5 CLOSING 6 TIME_WAIT 7 UDP_NEW 8 UDP_REPLIED 9 T_SYN_SENT 6 "
        + "T_SYN_RECV 6 T_ESTABLISHED 40 T_FIN 12 T_CLOSING 12 T_TIME_WAIT 4 T_UDP_NEW 10 T_UDP_REPLIED 30";
    private static final Set<String> METHODS = Set.of("int addRule 4", "int removeRule 1", "int ruleCount 0",
        "int ruleInfo 2", "int classify 3", "int matchingRule 3", "boolean shadowed 1", "boolean redundant 1",
        "int packet 4", "int tick 1", "int now 0", "int connCount 0", "int connState 3", "int connDirection 3",
        "int connTimeLeft 3", "int connNextSeq 3");
    private static final Set<Class<?>> TYPES = Set.of(int.class, long.class, short.class, byte.class, char.class,
        boolean.class, int[].class, long[].class, short[].class, byte[].class, char[].class, boolean[].class);
    private static final String FORBIDDEN = "\\b(import|package|throw|throws|try|catch|finally|synchronized|assert|"
        + "instanceof|null|float|double|super|native|volatile|transient|interface|enum|record|var|"
        + "Math|Integer|Long|String|System|Arrays|Object)\\b|->|::|\"|\\[\\s*\\]\\s*\\[";

    // A method's head on one line, its name being the first group, and its body, the second.
    private static final Pattern METHOD = Pattern.compile(
        "(?ms)^    (?:public|private)[^;={\\n]*?(\\w+)\\([^)\\n]*\\) \\{\n(.*?)^    \\}");
    private static final Pattern CALL = Pattern.compile("\\b(?!(?:if|for|while|switch|return)\\b)(\\w+)\\(");
    private static final int DEEPEST = 6;

    private static final Check CHECK = new Check();

    public static void main(String[] args) throws IOException, IllegalAccessException {
        classIsAlone();
        fieldsAreOfTheDocumentOrPrivate();
        methodsAreOfTheDocumentOrPrivate();
        String source = withoutComments(Files.readString(Path.of("src/main/java/StatefulFirewall.java")));
        sourceKeepsToTheWords(source);
        arraysAreMadeInFields(source);
        noCallStandsInACall(source);
        methodsAreShort(source);
        callsAreShallow(source);
        CHECK.end();
    }

    private static void classIsAlone() {
        Class<?> type = StatefulFirewall.class;
        CHECK.due("class is public final", type.getModifiers(), Modifier.PUBLIC | Modifier.FINAL);
        CHECK.due("nested classes", type.getDeclaredClasses().length, 0);
        CHECK.due("interfaces", type.getInterfaces().length, 0);
        CHECK.due("extends Object alone", type.getSuperclass() == Object.class, true);
        CHECK.due("package", type.getPackageName().isEmpty(), true);
        Constructor<?>[] constructors = type.getDeclaredConstructors();
        CHECK.due("constructors", constructors.length, 1);
        CHECK.due("constructor is public", constructors[0].getModifiers(), Modifier.PUBLIC);
        CHECK.due("constructor's parameters", constructors[0].getParameterCount(), 3);
    }

    private static void fieldsAreOfTheDocumentOrPrivate() throws IllegalAccessException {
        Map<String, Integer> due = new TreeMap<>();
        String[] words = CONSTANTS.split(" ");
        for (int i = 0; i < words.length; i += 2) {
            due.put(words[i], Integer.valueOf(words[i + 1]));
        }
        Map<String, Integer> found = new TreeMap<>();
        int changing = 0;
        for (Field field : StatefulFirewall.class.getDeclaredFields()) {
            boolean isStatic = Modifier.isStatic(field.getModifiers());
            CHECK.due("type of " + field.getName(), TYPES.contains(field.getType()), true);
            if (Modifier.isPrivate(field.getModifiers())) {
                changing += isStatic ? 0 : 1;
            } else {
                CHECK.due("modifiers of " + field.getName(), field.getModifiers(),
                    Modifier.PUBLIC | Modifier.STATIC | Modifier.FINAL);
                found.put(field.getName(), field.getInt(null));
            }
            if (isStatic) {
                boolean whole = field.getType() == int.class || field.getType() == long.class;
                CHECK.due(field.getName() + " is a constant", whole && Modifier.isFinal(field.getModifiers()), true);
            }
        }
        CHECK.due("public constants " + found, found.equals(due), true);
        CHECK.due("at most forty fields", changing <= 40, true);
    }

    private static void methodsAreOfTheDocumentOrPrivate() {
        Set<String> open = new TreeSet<>();
        Set<String> openNames = new TreeSet<>();
        Set<String> privateNames = new TreeSet<>();
        for (Method method : StatefulFirewall.class.getDeclaredMethods()) {
            boolean isPrivate = Modifier.isPrivate(method.getModifiers());
            (isPrivate ? privateNames : openNames).add(method.getName());
            if (!isPrivate) {
                CHECK.due("modifiers of " + method.getName(), method.getModifiers(), Modifier.PUBLIC);
                open.add(method.getReturnType() + " " + method.getName() + " " + method.getParameterCount());
            }
            CHECK.due("parameters of " + method.getName(), method.getParameterCount() <= 7, true);
            CHECK.due("answer of " + method.getName(), method.getReturnType().isPrimitive(), true);
            for (Class<?> type : method.getParameterTypes()) {
                CHECK.due("parameter of " + method.getName(), isPrivate ? TYPES.contains(type) : type == int.class, true);
            }
        }
        CHECK.due("public methods " + open, open.equals(METHODS), true);
        openNames.retainAll(privateNames);
        CHECK.due("private methods with a public one's name " + openNames, openNames.isEmpty(), true);
    }

    private static String withoutComments(String source) {
        return source.replaceAll("(?s)/\\*.*?\\*/", "").replaceAll("//[^\n]*", "");
    }

    private static void sourceKeepsToTheWords(String source) {
        Matcher matcher = Pattern.compile(FORBIDDEN).matcher(source);
        while (matcher.find()) {
            CHECK.due("the source has " + matcher.group(), true, false);
        }
    }

    private static void noCallStandsInACall(String source) {
        Matcher method = METHOD.matcher(source);
        while (method.find()) {
            Matcher call = CALL.matcher(method.group(2));
            while (call.find()) {
                String arguments = untilClosed(method.group(2).substring(call.end()));
                CHECK.due("a call inside " + call.group() + arguments, CALL.matcher(arguments).find(), false);
            }
        }
    }

    /** The text up to the bracket that closes what was opened before it. */
    private static String untilClosed(String text) {
        int open = 1;
        int at = 0;
        while (open > 0) {
            char letter = text.charAt(at++);
            open += letter == '(' ? 1 : letter == ')' ? -1 : 0;
        }
        return text.substring(0, at - 1);
    }

    private static void arraysAreMadeInFields(String source) {
        Matcher matcher = Pattern.compile("[^\n]*\\bnew\\b[^\n]*").matcher(source);
        while (matcher.find()) {
            boolean field = matcher.group().matches("    private final int\\[\\] \\w+ = new int\\[[A-Z_]+\\];");
            CHECK.due("an array made in a field:" + matcher.group(), field, true);
        }
    }

    private static void methodsAreShort(String source) {
        Matcher method = METHOD.matcher(source);
        int methods = 0;
        while (method.find()) {
            methods++;
            CHECK.due("a short method: " + method.group(1), method.group().lines().count() <= 60, true);
        }
        int declared = StatefulFirewall.class.getDeclaredMethods().length + 1;
        CHECK.due("methods seen in the source", methods, declared);
    }

    private static void callsAreShallow(String source) {
        Map<String, Set<String>> calls = new TreeMap<>();
        Matcher method = METHOD.matcher(source);
        while (method.find()) {
            Set<String> called = calls.computeIfAbsent(method.group(1), name -> new TreeSet<>());
            Matcher call = CALL.matcher(method.group(2));
            while (call.find()) {
                called.add(call.group(1));
            }
        }
        for (String name : calls.keySet()) {
            CHECK.due("calls from " + name + " go at most six deep", depth(name, calls, 1) <= DEEPEST, true);
        }
    }

    /** How deep the calls go from a method at this depth; recursion shows as one deeper than is allowed. */
    private static int depth(String name, Map<String, Set<String>> calls, int depth) {
        int deepest = depth;
        if (depth <= DEEPEST) {
            CHECK.due(name + " is a method of the class", calls.containsKey(name), true);
            for (String called : calls.getOrDefault(name, Set.of())) {
                deepest = Math.max(deepest, depth(called, calls, depth + 1));
            }
        }
        return deepest;
    }
}
