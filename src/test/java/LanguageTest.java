import java.io.IOException;
import java.lang.reflect.Field;
import java.lang.reflect.Method;
import java.lang.reflect.Modifier;
import java.nio.file.Files;
import java.nio.file.Path;
import java.util.HashMap;
import java.util.List;
import java.util.Map;
import java.util.Set;
import java.util.TreeSet;
import java.util.regex.Matcher;
import java.util.regex.Pattern;

/** The public face of the document, and the rules of LANGUAGE.md that a program can look at. */
public final class LanguageTest {
    private static final String SOURCE = "src/main/java/PolicyScript.java";
    private static final String FACE = "earliest() hold(int,int,boolean) holds(int,int) join(int,int)"
        + " lock(int,int) malleate() place(int,int,int) reopen() satisfy() seal() setTime(int)"
        + " slot(int) spend() status() token(int) variants()";
    private static final String CONSTANTS = "ACCEPTED AFTER BAD DRAFT FULL HASH KEY LOOSE NONE ROOTS"
        + " SEALED SHORT SIGNED UNSIGNED WRONG";
    private static final Set<String> NOT_CALLS = Set.of("if", "for", "while", "switch", "return");
    private static final int MOST_LINES = 60;
    private static final int MOST_DEPTH = 6;
    private static final int MOST_FIELDS = 40;
    private static final int MOST_PARAMETERS = 7;
    private static final Due DUE = new Due();

    public static void main(String[] args) throws IOException {
        String code = Files.readString(Path.of(SOURCE)).replaceAll("(?s)/\\*.*?\\*/|//[^\n]*", "");
        Map<String, String> bodies = bodies(code);
        DUE.sentence("The public face", LanguageTest::face);
        DUE.sentence("rule 1: no nested class, and no private method bears the name of a public one",
            LanguageTest::privateMembers);
        DUE.sentence("rules 2, 3 and 6: numbers and arrays of numbers alone, no library, no exceptions",
            () -> words(code));
        DUE.sentence("rule 4: arrays are made in a field's initialiser or in the constructor",
            () -> arrays(bodies));
        DUE.sentence("rule 5: static fields are constants of int or long", LanguageTest::staticFields);
        DUE.sentence("rule 8: no recursion; rule 10: calls go at most six deep", () -> depths(bodies));
        DUE.sentence("rule 10: methods stay short, parameters and fields are few",
            () -> sizes(bodies));
        DUE.sentence("rule 10: no call stands inside the arguments of another call",
            () -> nestedCalls(code));
        DUE.end();
    }

    private static void face() {
        Set<String> open = new TreeSet<>();
        for (Method method : PolicyScript.class.getDeclaredMethods()) {
            if (!Modifier.isPrivate(method.getModifiers())) {
                String whole = method.toString();
                open.add(method.getName() + whole.substring(whole.indexOf('(')));
                String answer = method.getName().equals("reopen") ? "void" : "int";
                DUE.same("answer of " + whole, method.getReturnType().getName(), answer);
                DUE.is("public " + whole, Modifier.isPublic(method.getModifiers()) ? 1 : 0, 1);
            }
        }
        DUE.same("public methods", String.join(" ", open), FACE);
        Set<String> constants = new TreeSet<>();
        for (Field field : PolicyScript.class.getDeclaredFields()) {
            if (!Modifier.isPrivate(field.getModifiers())) {
                constants.add(field.getName());
                DUE.same("type of " + field.getName(), field.getType().getName(), "int");
            }
        }
        DUE.same("public constants", String.join(" ", constants), CONSTANTS);
        DUE.is("constructors", PolicyScript.class.getDeclaredConstructors().length, 1);
        DUE.is("final class", Modifier.isFinal(PolicyScript.class.getModifiers()) ? 1 : 0, 1);
    }

    private static void privateMembers() {
        for (Method method : PolicyScript.class.getDeclaredMethods()) {
            boolean openName = (" " + FACE).contains(" " + method.getName() + "(");
            boolean bad = openName && Modifier.isPrivate(method.getModifiers());
            DUE.is("private method with a public name, " + method, bad ? 1 : 0, 0);
        }
        DUE.is("nested classes", PolicyScript.class.getDeclaredClasses().length, 0);
    }

    private static void words(String code) {
        String[] barred = {"import", "package", "float", "double", "throw", "throws", "try", "catch",
            "synchronized", "assert", "instanceof", "null", "enum", "interface"};
        for (String word : barred) {
            boolean found = Pattern.compile("\\b" + word + "\\b").matcher(code).find();
            DUE.is("'" + word + "' in the source", found ? 1 : 0, 0);
        }
        DUE.is("'->' or '::' in the source", code.contains("->") || code.contains("::") ? 1 : 0, 0);
        DUE.is("'\"' in the source", code.contains("\"") ? 1 : 0, 0);
        Matcher classes = Pattern.compile("\\b[A-Z]\\w*[a-z]\\w*").matcher(code);
        while (classes.find()) {
            DUE.same("class named in the source", classes.group(), "PolicyScript");
        }
    }

    private static void arrays(Map<String, String> bodies) {
        for (String name : bodies.keySet()) {
            if (!name.equals("PolicyScript")) {
                boolean makes = bodies.get(name).matches("(?s).*\\bnew\\b.*");
                DUE.is("'new' in " + name, makes ? 1 : 0, 0);
            }
        }
    }

    private static void staticFields() {
        for (Field field : PolicyScript.class.getDeclaredFields()) {
            if (Modifier.isStatic(field.getModifiers())) {
                String type = field.getType().getName();
                DUE.is(type + " " + field.getName(), type.matches("int|long") ? 1 : 0, 1);
                DUE.is("final " + field.getName(), Modifier.isFinal(field.getModifiers()) ? 1 : 0, 1);
            }
        }
    }

    private static void sizes(Map<String, String> bodies) {
        int methods = PolicyScript.class.getDeclaredMethods().length;
        DUE.is("methods and constructor found in the source", bodies.size(), methods + 1);
        for (String name : bodies.keySet()) {
            int lines = bodies.get(name).strip().split("\n").length;
            DUE.is("lines too many in " + name, Math.max(0, lines - MOST_LINES), 0);
        }
        int kept = 0;
        for (Field field : PolicyScript.class.getDeclaredFields()) {
            kept += Modifier.isStatic(field.getModifiers()) ? 0 : 1;
        }
        DUE.is("fields too many", Math.max(0, kept - MOST_FIELDS), 0);
        for (Method method : PolicyScript.class.getDeclaredMethods()) {
            int more = method.getParameterCount() - MOST_PARAMETERS;
            DUE.is("parameters too many of " + method, Math.max(0, more), 0);
        }
    }

    private static void depths(Map<String, String> bodies) {
        for (String name : bodies.keySet()) {
            boolean deep = depth(name, bodies, 1) > MOST_DEPTH;
            DUE.is("recursion or too deep from " + name, deep ? 1 : 0, 0);
        }
    }

    /** Stops past the greatest depth, so a recursion shows as too deep. */
    private static int depth(String name, Map<String, String> bodies, int above) {
        int deepest = above;
        if (above <= MOST_DEPTH) {
            for (String called : called(bodies.get(name))) {
                if (bodies.containsKey(called)) {
                    deepest = Math.max(deepest, depth(called, bodies, above + 1));
                }
            }
        }
        return deepest;
    }

    private static void nestedCalls(String code) {
        Matcher call = Pattern.compile("\\b(\\w+)\\s*\\(").matcher(code);
        while (call.find()) {
            if (!NOT_CALLS.contains(call.group(1))) {
                String inside = code.substring(call.end(), closing(code, call.end(), '(', ')'));
                DUE.is("calls inside " + call.group(1) + "(" + inside + ")", called(inside).size(), 0);
            }
        }
    }

    private static List<String> called(String body) {
        return Pattern.compile("\\b(\\w+)\\s*\\(").matcher(body).results()
            .map(match -> match.group(1)).filter(word -> !NOT_CALLS.contains(word)).toList();
    }

    /** What stands between the braces of each method and of the constructor. */
    private static Map<String, String> bodies(String code) {
        Map<String, String> bodies = new HashMap<>();
        Matcher head = Pattern.compile("\\b(\\w+)\\s*\\([^()]*\\)\\s*\\{").matcher(code);
        int at = code.indexOf('{') + 1;
        while (head.find(at)) {
            int end = closing(code, head.end(), '{', '}');
            bodies.put(head.group(1), code.substring(head.end(), end));
            at = end;
        }
        return bodies;
    }

    private static int closing(String code, int from, char opening, char closing) {
        int open = 1;
        int at = from;
        while (at < code.length()) {
            open += code.charAt(at) == opening ? 1 : code.charAt(at) == closing ? -1 : 0;
            if (open == 0) {
                return at;
            }
            at++;
        }
        return at;
    }
}
