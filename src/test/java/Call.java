import java.lang.reflect.Method;
import java.lang.reflect.Modifier;
import java.util.ArrayList;
import java.util.HashMap;
import java.util.List;
import java.util.Map;
import java.util.regex.Matcher;
import java.util.regex.Pattern;

/** A call of the face as the document writes it: name(arguments) = the answer that is due, which may be left out. */
final class Call {
    private static final Pattern WRITTEN =
            Pattern.compile("\\s*(\\w+)\\(((?:'.'|[^()'])*)\\)(?:\\s*=\\s*([-.\\w]+))?[ ]*(?:;|\\n|$)");
    private static final Map<String, Long> ERRORS = Map.of("NO_SUCH_AXIS", -1000001L, "NO_SUCH_GLYPH", -1000002L,
            "NO_SUCH_TUPLE", -1000003L, "NO_SUCH_POINT", -1000004L, "BAD_VALUE", -1000005L, "FULL", -1000006L,
            "NOT_POSSIBLE", -1000007L, "NONE", -1000008L, "NO_VALUE", Long.MIN_VALUE);
    private static final Map<String, Method> METHODS = methods();

    final String text;
    final Method method;
    final Object[] arguments;
    private final String due;

    private Call(String text, Method method, Object[] arguments, String due) {
        this.text = text;
        this.method = method;
        this.arguments = arguments;
        this.due = due;
    }

    private static Map<String, Method> methods() {
        Map<String, Method> result = new HashMap<>();
        for (Method method : FontInstancer.class.getDeclaredMethods()) {
            if (Modifier.isPublic(method.getModifiers())) {
                result.put(method.getName(), method);
            }
        }
        return result;
    }

    static Method method(String name) {
        Method method = METHODS.get(name);
        if (method == null) {
            throw new IllegalArgumentException("no method " + name);
        }
        return method;
    }

    /** The calls that stand in the lines, one behind the other. */
    static List<Call> all(String lines) {
        List<Call> calls = new ArrayList<>();
        Matcher matcher = WRITTEN.matcher(lines);
        int at = 0;
        while (!lines.substring(at).isBlank()) {
            if (!matcher.find(at) || matcher.start() != at) {
                throw new IllegalArgumentException("no call: " + lines.substring(at));
            }
            calls.add(written(matcher.group(1), matcher.group(2), matcher.group(3)));
            at = matcher.end();
        }
        return calls;
    }

    private static Call written(String name, String list, String due) {
        Method method = method(name);
        Class<?>[] types = method.getParameterTypes();
        String[] words = list.isEmpty() ? new String[0] : list.startsWith("'") ? new String[] {list} : list.split(", ");
        if (words.length != types.length) {
            throw new IllegalArgumentException("not the arguments of " + name + ": " + list);
        }
        Object[] arguments = new Object[words.length];
        for (int i = 0; i < words.length; i++) {
            arguments[i] = argument(types[i], words[i]);
        }
        return new Call(name + "(" + list + ")", method, arguments, due);
    }

    private static Object argument(Class<?> type, String word) {
        if (type == boolean.class) {
            if (!word.equals("true") && !word.equals("false")) {
                throw new IllegalArgumentException("neither true nor false: " + word);
            }
            return word.equals("true");
        }
        if (type == char.class) {
            return word.startsWith("'") ? word.charAt(1) : (char) Integer.parseInt(word);
        }
        return Integer.parseInt(word);
    }

    String dueText() {
        return due == null ? "no error" : due;
    }

    boolean isRight(Number answer) {
        if (due == null) {
            return !ERRORS.containsValue(answer.longValue());
        }
        if (ERRORS.containsKey(due)) {
            return answer.longValue() == ERRORS.get(due);
        }
        if (answer instanceof Double || answer instanceof Float) {
            return Double.compare(answer.doubleValue(), Double.parseDouble(due)) == 0;
        }
        return answer.longValue() == Long.parseLong(due);
    }

    /** Whether the document wants an answer with which nothing changes. */
    boolean isRefused() {
        if (due == null) {
            return false;
        }
        boolean fault = method.getName().equals("readLocation") && due.startsWith("-1");
        return fault || ERRORS.containsKey(due) || due.equals("-1.0");
    }
}
