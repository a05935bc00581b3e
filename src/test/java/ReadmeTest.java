import java.io.IOException;
import java.lang.reflect.Method;
import java.lang.reflect.Modifier;
import java.nio.file.Files;
import java.nio.file.Path;
import java.util.ArrayList;
import java.util.List;
import java.util.Map;
import java.util.TreeMap;
import java.util.TreeSet;
import java.util.regex.Matcher;
import java.util.regex.Pattern;

/** What README.md says of calls and answers is what the class does. */
public final class ReadmeTest {
    private static final Pattern MADE =
        Pattern.compile("PolicyScript policy = new PolicyScript\\(([^()]*)\\);");
    private static final Pattern CALL =
        Pattern.compile("policy\\.(\\w+)\\(([^()]*)\\);(?:\\s+// (-?\\w+)(?:: .*)?)?");
    private static final Pattern REFUSAL = Pattern.compile("\\|(?: `([A-Z]+)`)? \\|(?: (-\\d+))? \\|"
        + " (`[^|]*`) \\| [^|]+ \\|");
    private static final int[] ARGUMENTS = {-1, 0, 1, 2, 3, 4, 8, 64};
    private static final Due DUE = new Due();

    public static void main(String[] args) throws IOException {
        List<String> lines = Files.readAllLines(Path.of("README.md"));
        DUE.sentence("the answer stands behind each call", () -> examples(lines));
        DUE.sentence("every call of the class stands in an example", () -> everyCall(lines));
        DUE.sentence("A refused call answers a negative number", () -> refusals(lines));
        DUE.end();
    }

    private static List<String> exampleLines(List<String> lines) {
        List<String> examples = new ArrayList<>();
        boolean inside = false;
        for (String line : lines) {
            if (line.startsWith("```")) {
                inside = line.equals("```java");
            } else if (inside) {
                examples.add(line);
            }
        }
        return examples;
    }

    private static void examples(List<String> lines) {
        PolicyScript policy = null;
        for (String line : exampleLines(lines)) {
            Matcher made = MADE.matcher(line);
            Matcher call = CALL.matcher(line);
            if (made.matches()) {
                int[] given = values(made.group(1));
                policy = new PolicyScript(given[0], given[1], given[2], given[3]);
            } else if (policy != null && call.matches()) {
                Object answer = answer(policy, method(call.group(1)), values(call.group(2)));
                String due = call.group(3) == null ? "null" : "" + value(call.group(3));
                DUE.same(line, "" + answer, due);
            } else {
                DUE.same("no call of the example", line, "");
            }
        }
    }

    private static void everyCall(List<String> lines) {
        String examples = String.join("\n", exampleLines(lines));
        for (Method method : publicMethods()) {
            boolean found = examples.contains("policy." + method.getName() + "(");
            DUE.is("examples of " + method.getName(), found ? 1 : 0, 1);
        }
    }

    private static void refusals(List<String> lines) {
        Map<Integer, TreeSet<String>> told = new TreeMap<>();
        int refusal = 0;
        for (String line : lines) {
            Matcher row = REFUSAL.matcher(line);
            if (!row.matches()) {
                continue;
            }
            if (row.group(1) != null) {
                refusal = Integer.parseInt(row.group(2));
                DUE.is(row.group(1), value(row.group(1)), refusal);
            }
            for (String call : row.group(3).split(", ")) {
                told.computeIfAbsent(refusal, r -> new TreeSet<>()).add(call.replace("`", ""));
            }
        }
        DUE.same("calls by their refusals", told.toString(), seenRefusals().toString());
    }

    /** Every call in every state, with arguments in and out of their ranges. */
    private static Map<Integer, TreeSet<String>> seenRefusals() {
        Map<Integer, TreeSet<String>> seen = new TreeMap<>();
        for (Method method : publicMethods()) {
            if (method.getReturnType() != int.class) {
                continue;
            }
            int count = method.getParameterCount();
            for (State state : State.values()) {
                for (int choice = 0; choice < 1 << 3 * count; choice++) {
                    int[] given = new int[count];
                    for (int i = 0; i < count; i++) {
                        given[i] = ARGUMENTS[choice >> 3 * i & 7];
                    }
                    int answer = (Integer) answer(state.make(), method, given);
                    if (answer < 0) {
                        seen.computeIfAbsent(answer, a -> new TreeSet<>()).add(method.getName());
                    }
                }
            }
        }
        return seen;
    }

    private static List<Method> publicMethods() {
        List<Method> methods = new ArrayList<>();
        for (Method method : PolicyScript.class.getDeclaredMethods()) {
            if (Modifier.isPublic(method.getModifiers())) {
                methods.add(method);
            }
        }
        return methods;
    }

    private static Method method(String name) {
        for (Method method : publicMethods()) {
            if (method.getName().equals(name)) {
                return method;
            }
        }
        throw new IllegalArgumentException("no call " + name);
    }

    private static int[] values(String arguments) {
        if (arguments.isEmpty()) {
            return new int[0];
        }
        String[] words = arguments.split(", ");
        int[] values = new int[words.length];
        for (int i = 0; i < words.length; i++) {
            values[i] = value(words[i].replace("PolicyScript.", ""));
        }
        return values;
    }

    /** Of a number, true or false (1 or 0), or the name of a constant. */
    private static int value(String word) {
        if (word.matches("-?\\d+")) {
            return Integer.parseInt(word);
        }
        if (word.matches("true|false")) {
            return word.equals("true") ? 1 : 0;
        }
        try {
            return PolicyScript.class.getField(word).getInt(null);
        } catch (ReflectiveOperationException none) {
            throw new IllegalArgumentException("no constant " + word);
        }
    }

    private static Object answer(PolicyScript x, Method method, int[] given) {
        Class<?>[] types = method.getParameterTypes();
        Object[] values = new Object[given.length];
        for (int i = 0; i < given.length; i++) {
            boolean truth = i < types.length && types[i] == boolean.class;
            values[i] = truth ? (Object) (given[i] == 1) : (Object) given[i];
        }
        try {
            return method.invoke(x, values);
        } catch (ReflectiveOperationException failed) {
            throw new IllegalStateException(method.getName() + ": " + failed);
        }
    }
}
