import java.io.IOException;
import java.lang.reflect.Field;
import java.lang.reflect.Method;
import java.lang.reflect.Modifier;
import java.nio.file.Files;
import java.nio.file.Path;
import java.util.HashMap;
import java.util.List;
import java.util.Map;
import java.util.Set;
import java.util.TreeSet;
import java.util.regex.Matcher;
import java.util.regex.Pattern;

/** The rules of LANGUAGE.md that a program can look at, and the public face of the document. */
public final class LanguageTest {
    private static final String SOURCE = "src/main/java/PolicyScript.java";
    private static final String FACE = "earliest() hold(int,int,boolean) holds(int,int) join(int,int)"
        + " lock(int,int) malleate() place(int,int,int) reopen() satisfy() seal() setTime(int)"
        + " slot(int) spend() status() token(int) variants()";
    private static final String CONSTANTS = "ACCEPTED AFTER BAD DRAFT FULL HASH KEY LOOSE NONE ROOTS"
        + " SEALED SHORT SIGNED UNSIGNED WRONG";
    private static final Set<String> NOT_CALLS = Set.of("if", "for", "while", "switch", "return");
    private static final Due DUE = new Due();

    public static void main(String[] args) throws IOException {
        face();
        fields();
        String code = Files.readString(Path.of(SOURCE)).replaceAll("(?s)/\\*.*?\\*/|//[^\n]*", "");
        words(code);
        Map<String, String> bodies = bodies(code);
        calls(bodies);
        nestedCalls(code);
        DUE.end();
    }

    private static void face() {
        Set<String> open = new TreeSet<>();
        Set<String> openNames = new TreeSet<>();
        for (Method method : PolicyScript.class.getDeclaredMethods()) {
            if (!Modifier.isPrivate(method.getModifiers())) {
                String whole = method.toString();
                open.add(method.getName() + whole.substring(whole.indexOf('(')));
                openNames.add(method.getName());
                String answer = method.getName().equals("reopen") ? "void" : "int";
                DUE.same("answer of " + whole, method.getReturnType().getName(), answer);
            }
        }
        DUE.same("public methods", String.join(" ", open), FACE);
        for (Method method : PolicyScript.class.getDeclaredMethods()) {
            if (Modifier.isPrivate(method.getModifiers()) && openNames.contains(method.getName())) {
                DUE.same("rule 1", method.toString(), "no private method with a public name");
            }
            DUE.is("rule 10, parameters past seven", Math.max(0, method.getParameterCount() - 7), 0);
        }
        DUE.is("constructors", PolicyScript.class.getDeclaredConstructors().length, 1);
        DUE.is("rule 1, nested classes", PolicyScript.class.getDeclaredClasses().length, 0);
        DUE.is("final class", Modifier.isFinal(PolicyScript.class.getModifiers()) ? 1 : 0, 1);
    }

    private static void fields() {
        Set<String> open = new TreeSet<>();
        int kept = 0;
        for (Field field : PolicyScript.class.getDeclaredFields()) {
            int marks = field.getModifiers();
            if (!Modifier.isPrivate(marks)) {
                open.add(field.getName());
            }
            if (Modifier.isStatic(marks)) {
                DUE.same("rule 5, " + field.getName(), field.getType().getName(), "int");
            } else {
                kept++;
            }
        }
        DUE.same("public constants", String.join(" ", open), CONSTANTS);
        DUE.is("rule 10, fields past forty", Math.max(0, kept - 40), 0);
    }

    private static void words(String code) {
        String[] barred = {"import", "package", "String", "Math", "Integer", "System", "Arrays",
            "Object", "float", "double", "throw", "throws", "try", "catch", "synchronized", "assert",
            "instanceof", "null", "enum", "record", "interface", "length", "var"};
        for (String word : barred) {
            boolean found = Pattern.compile("\\b" + word + "\\b").matcher(code).find();
            DUE.is("rules 1 to 6, '" + word + "' in the source", found ? 1 : 0, 0);
        }
        DUE.is("rule 6, '->' or '::'", code.contains("->") || code.contains("::") ? 1 : 0, 0);
        for (String line : code.split("\n")) {
            if (line.matches(".*\\bnew\\b.*")) {
                boolean field = line.matches(" {4}private final int\\[\\] \\w+ = new int\\[[A-Z_]+\\];");
                DUE.is("rule 4, " + line.trim(), field ? 1 : 0, 1);
            }
        }
    }

    /** What stands in each method, found by the four spaces before its first and last line. */
    private static Map<String, String> bodies(String code) {
        Map<String, String> bodies = new HashMap<>();
        Pattern method = Pattern.compile(
            "(?ms)^ {4}(?:public|private)(?: static)?(?: \\w+)? (\\w+)\\([^)]*\\) \\{\n(.*?)^ {4}\\}");
        Matcher found = method.matcher(code);
        while (found.find()) {
            bodies.put(found.group(1), found.group(2));
            int lines = found.group(2).split("\n").length;
            DUE.is("rule 10, lines past sixty in " + found.group(1), Math.max(0, lines - 60), 0);
        }
        int methods = PolicyScript.class.getDeclaredMethods().length;
        DUE.is("methods found in the source", bodies.size(), methods + 1);
        return bodies;
    }

    private static void calls(Map<String, String> bodies) {
        for (String name : bodies.keySet()) {
            boolean deep = depth(name, bodies, 1) > 6;
            DUE.is("rules 8 and 10, recursion or too deep from " + name, deep ? 1 : 0, 0);
        }
    }

    /** Stops past six, so a recursion shows as too deep. */
    private static int depth(String name, Map<String, String> bodies, int above) {
        int deepest = above;
        if (above <= 6) {
            for (String called : called(bodies.get(name))) {
                if (bodies.containsKey(called)) {
                    deepest = Math.max(deepest, depth(called, bodies, above + 1));
                }
            }
        }
        return deepest;
    }

    private static List<String> called(String body) {
        return Pattern.compile("\\b(\\w+)\\(").matcher(body).results()
            .map(match -> match.group(1)).filter(word -> !NOT_CALLS.contains(word)).toList();
    }

    private static void nestedCalls(String code) {
        Matcher call = Pattern.compile("\\b(\\w+)\\(").matcher(code);
        while (call.find()) {
            if (!NOT_CALLS.contains(call.group(1))) {
                String inside = upToClosing(code, call.end());
                DUE.is("rule 10, calls inside " + call.group(1) + "(" + inside, called(inside).size(), 0);
            }
        }
    }

    private static String upToClosing(String code, int from) {
        int open = 1;
        int at = from;
        while (open > 0 && at < code.length()) {
            open += code.charAt(at) == '(' ? 1 : code.charAt(at) == ')' ? -1 : 0;
            at++;
        }
        return code.substring(from, at);
    }
}
