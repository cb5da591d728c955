import java.lang.reflect.Method;
import java.util.HashMap;
import java.util.List;
import java.util.Map;

/** Makes calls by their names, on the program or on the model. */
final class User {
    private final Object used;
    private final Map<String, Method> methods = new HashMap<>();

    User(Object used) {
        this.used = used;
        for (Method method : used.getClass().getDeclaredMethods()) {
            methods.put(method.getName(), method);
        }
    }

    int answer(Call call) {
        try {
            return (Integer) methods.get(call.name).invoke(used, call.numbers);
        } catch (ReflectiveOperationException e) {
            throw new IllegalStateException(call + " threw, or a test's own call is wrong", e);
        }
    }

    int[] answers(List<Call> calls) {
        int[] all = new int[calls.size()];
        for (int i = 0; i < all.length; i++) {
            all[i] = answer(calls.get(i));
        }
        return all;
    }
}
