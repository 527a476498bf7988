import java.lang.reflect.InvocationTargetException;
import java.lang.reflect.Method;
import java.lang.reflect.Modifier;
import java.util.ArrayList;
import java.util.Arrays;
import java.util.HashMap;
import java.util.List;
import java.util.Map;

/** An object and the model, which get the same calls. */
final class Pair {
    private static final Map<String, Method> OF_OBJECT = methods(BooleanConstraints.class);
    private static final Map<String, Method> OF_MODEL = methods(Model.class);

    final Model model = new Model();
    private final BooleanConstraints object = new BooleanConstraints();
    /** For each call its name, its arguments, what was due and what was answered. */
    private final List<Object[]> calls = new ArrayList<>();

    private static Map<String, Method> methods(Class<?> type) {
        Map<String, Method> methods = new HashMap<>();
        for (Method method : type.getDeclaredMethods()) {
            if (!Modifier.isPrivate(method.getModifiers())) {
                methods.put(method.getName(), method);
            }
        }
        return methods;
    }

    /** Makes a call to both, and tells whether the object answers as the model does. */
    boolean isSame(String name, Object... arguments) {
        String due = answer(OF_MODEL.get(name), model, arguments);
        String got = answer(OF_OBJECT.get(name), object, arguments);
        calls.add(new Object[] {name, arguments, due, got});
        return due.equals(got);
    }

    /** A call that is written as its name and its arguments, with spaces between them. */
    boolean isSameAsWritten(String call) {
        String[] parts = call.split(" ");
        Object[] arguments = new Object[parts.length - 1];
        for (int i = 0; i < arguments.length; i++) {
            arguments[i] = argument(parts[0], parts[i + 1]);
        }
        return isSame(parts[0], arguments);
    }

    private static Object argument(String name, String text) {
        if (name.equals("append")) {
            return text.charAt(0);
        }
        return text.equals("true") || text.equals("false") ? (Object) Boolean.valueOf(text) : Integer.valueOf(text);
    }

    int calls() {
        return calls.size();
    }

    /** All calls so far with their answers. */
    String story() {
        StringBuilder story = new StringBuilder();
        for (Object[] call : calls) {
            story.append(call[0]).append(Arrays.toString((Object[]) call[1])).append(" answered ").append(call[3]);
            story.append(call[2].equals(call[3]) ? "" : ", due is " + call[2]).append('\n');
        }
        return story.toString();
    }

    private static String answer(Method method, Object whom, Object[] arguments) {
        try {
            return String.valueOf(method.invoke(whom, arguments));
        } catch (InvocationTargetException e) {
            return "throws " + e.getCause().getClass().getName();
        } catch (IllegalAccessException e) {
            return "may not be called";
        }
    }
}
