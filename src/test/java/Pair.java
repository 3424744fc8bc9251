import java.lang.reflect.InvocationTargetException;
import java.lang.reflect.Method;
import java.lang.reflect.Modifier;
import java.util.HashMap;
import java.util.List;
import java.util.Map;

/** A Buildmill and a Model that get the same calls; every answer and every exception is compared. */
final class Pair {
    private static final int CALLS = 512;
    static final Map<String, Method> MILLS = methods(Buildmill.class);
    private static final Map<String, Method> MODELS = methods(Model.class);

    private final Buildmill mill = new Buildmill();
    private final Model model = new Model();
    private final StringBuilder run = new StringBuilder();
    private int calls;
    private boolean isWrong;

    private static Map<String, Method> methods(Class<?> type) {
        Map<String, Method> found = new HashMap<>();
        for (Method method : type.getDeclaredMethods()) {
            if (!Modifier.isPublic(method.getModifiers())) continue;
            method.setAccessible(true);
            found.put(method.getName(), method);
        }
        return found;
    }

    private static Object answer(Map<String, Method> methods, Object object, String name, Object... args) {
        try {
            Object got = methods.get(name).invoke(object, args);
            return got == null ? "nothing" : got;
        } catch (InvocationTargetException e) {
            return "throws." + e.getCause().getClass().getName();
        } catch (IllegalAccessException e) {
            throw new RuntimeException(e);
        }
    }

    /** An answer of the model alone, to find out what may be called. */
    Object ask(String name, Object... args) {
        return answer(MODELS, model, name, args);
    }

    Object call(String name, Object... args) {
        if (isOver()) return "no call";
        calls++;
        Object got = answer(MILLS, mill, name, args);
        Object due = answer(MODELS, model, name, args);
        run.append(name).append(List.of(args)).append(" -> ").append(got);
        if (!got.equals(due)) {
            run.append(", but the model says ").append(due);
            isWrong = true;
        }
        run.append('\n');
        return got;
    }

    int left() {
        return CALLS - calls;
    }

    boolean isOver() {
        return calls >= CALLS || isWrong;
    }

    boolean isWrong() {
        return isWrong;
    }

    String told() {
        return run.toString();
    }
}
