import java.lang.reflect.Method;
import java.lang.reflect.Modifier;
import java.util.List;
import java.util.Map;
import java.util.TreeMap;

/** Calls of HailHill by name, so that a call can be told, made again, and held against its twin. */
final class Face {
    private static final Map<String, Method> CALLS = new TreeMap<>();

    static {
        for (Method m : HailHill.class.getDeclaredMethods()) {
            if (Modifier.isPublic(m.getModifiers())) {
                CALLS.put(m.getName(), m);
            }
        }
    }

    private Face() {
    }

    /** The answer; a boolean counts 1 or 0. */
    static long call(HailHill hill, String name, long... args) {
        Method method = CALLS.get(name);
        Class<?>[] kinds = method.getParameterTypes();
        Object[] given = new Object[args.length];
        for (int i = 0; i < args.length; i++) {
            given[i] = kinds[i] == long.class ? (Object) args[i] : (Object) Math.toIntExact(args[i]);
        }
        try {
            Object answer = method.invoke(hill, given);
            return answer instanceof Boolean ? (Boolean) answer ? 1 : 0 : ((Number) answer).longValue();
        } catch (ReflectiveOperationException e) {
            throw new IllegalStateException(told(name, args), e);
        }
    }

    static boolean hasStatus(String name) {
        return !List.of("status", "top", "bottom", "feed", "fault").contains(name);
    }

    /** What a refused call gives: NONE, or false. */
    static long refusal(String name) {
        return CALLS.get(name).getReturnType() == boolean.class ? 0 : HailHill.NONE;
    }

    static String told(String name, long... args) {
        StringBuilder text = new StringBuilder(name).append('(');
        for (int i = 0; i < args.length; i++) {
            text.append(i == 0 ? "" : ", ").append(args[i]);
        }
        return text.append(')').toString();
    }
}
