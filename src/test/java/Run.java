import java.lang.reflect.Method;
import java.lang.reflect.Modifier;
import java.util.HashMap;
import java.util.Map;

/**
 * A new KeyShop, and calls on it that are told as text: "cylinder(0, 18)", several with ';' between them.
 * As text they can be made anew on another object, as often as a test wants to look behind them.
 */
final class Run {
    /** Behind so many the document leaves free what a call answers. */
    private static final int MOST_CALLS = 512;
    private static final Map<String, Method> METHODS = methodsByName();
    private static final Map<String, Call> CALLS = new HashMap<>();

    private record Call(Method method, Object[] arguments) {
    }

    private final KeyShop shop = new KeyShop();
    private int made = 0;

    Run(String calls) {
        for (String call : calls.split(";")) {
            if (!call.isBlank()) {
                make(call);
            }
        }
    }

    /** A shop that came out otherwise than its test means would prove nothing. */
    private void make(String call) {
        String[] parts = call.split("=");
        long answer = ask(parts[0]);
        boolean isDue = parts.length > 1 ? answer == Long.parseLong(parts[1].strip()) : answer >= KeyShop.NONE;
        if (!isDue) {
            throw new IllegalStateException("the shop can't be made: " + call + " answered " + answer);
        }
    }

    long ask(String call) {
        if (made >= MOST_CALLS) {
            throw new IllegalStateException("above " + MOST_CALLS + " calls: " + call);
        }
        made++;
        Call known = CALLS.computeIfAbsent(call.strip(), Run::parsed);
        try {
            return ((Number) known.method.invoke(shop, known.arguments)).longValue();
        } catch (ReflectiveOperationException e) {
            throw new IllegalStateException(call + " threw", e);
        }
    }

    int callsLeft() {
        return MOST_CALLS - made;
    }

    /** The same call several times; '#' in it stands for the numbers from 0 on. */
    static String times(int n, String call) {
        StringBuilder calls = new StringBuilder();
        for (int i = 0; i < n; i++) {
            calls.append(call.replace("#", Integer.toString(i))).append(';');
        }
        return calls.toString();
    }

    private static Map<String, Method> methodsByName() {
        Map<String, Method> methods = new HashMap<>();
        for (Method method : KeyShop.class.getDeclaredMethods()) {
            if (Modifier.isPublic(method.getModifiers())) {
                methods.put(method.getName(), method);
            }
        }
        return methods;
    }

    private static Call parsed(String call) {
        int opening = call.indexOf('(');
        Method method = METHODS.get(call.substring(0, opening));
        String inside = call.substring(opening + 1, call.lastIndexOf(')')).strip();
        String[] words = inside.isEmpty() ? new String[0] : inside.split(",");
        if (method == null || words.length != method.getParameterCount()) {
            throw new IllegalStateException("no such call: " + call);
        }
        Object[] arguments = new Object[words.length];
        for (int i = 0; i < words.length; i++) {
            arguments[i] = argument(method.getParameterTypes()[i], words[i].strip());
        }
        return new Call(method, arguments);
    }

    private static Object argument(Class<?> type, String word) {
        if (type == boolean.class) {
            return Boolean.valueOf(word);
        }
        if (word.equals("NONE")) {
            return KeyShop.NONE;
        }
        if (type == long.class) {
            return Long.valueOf(word);
        }
        return switch (word) {
            case "LEAST" -> Integer.MIN_VALUE;
            case "GREATEST" -> Integer.MAX_VALUE;
            default -> Integer.valueOf(word);
        };
    }
}
