import java.lang.reflect.Method;
import java.util.ArrayList;
import java.util.HashMap;
import java.util.List;
import java.util.Map;

/** Makes each call on a LeapingPassages and on a Model, and compares what they answer. */
final class Both {
    private static final Map<String, Method> OF_CLASS = methods(LeapingPassages.class);
    private static final Map<String, Method> OF_MODEL = methods(Model.class);

    final LeapingPassages x = new LeapingPassages();
    final Model model = new Model();
    final List<String> calls = new ArrayList<>();

    private static Map<String, Method> methods(Class<?> type) {
        Map<String, Method> methods = new HashMap<>();
        for (Method method : type.getDeclaredMethods()) {
            if (java.lang.reflect.Modifier.isPublic(method.getModifiers())) {
                method.setAccessible(true);
                methods.put(method.getName(), method);
            }
        }
        return methods;
    }

    static final class Unlike extends RuntimeException {
        private static final long serialVersionUID = 1L;

        Unlike(String text) {
            super(text);
        }
    }

    long call(String name, long... told) {
        StringBuilder call = new StringBuilder(name).append('(');
        Method method = OF_CLASS.get(name);
        Class<?>[] types = method.getParameterTypes();
        Object[] args = new Object[told.length];
        for (int i = 0; i < told.length; i++) {
            args[i] = types[i] == long.class ? (Object) told[i] : (Object) (int) told[i];
            call.append(i == 0 ? "" : ", ").append(args[i]);
        }
        calls.add(call.append(')').toString());
        long got;
        long want;
        try {
            want = ((Number) OF_MODEL.get(name).invoke(model, args)).longValue();
            got = ((Number) method.invoke(x, args)).longValue();
        } catch (ReflectiveOperationException e) {
            throw new Unlike(calls + " threw " + e.getCause());
        }
        calls.set(calls.size() - 1, call + " " + got);
        if (got != want) {
            throw new Unlike(String.join("\n", calls) + "\n  due is " + want);
        }
        return got;
    }

    void feedAll(String text) {
        for (int i = 0; i < text.length(); i++) {
            call("feed", text.charAt(i));
        }
    }

    /** All that can be seen, but for the counts of refusals, which it must not touch. */
    void compareAll() {
        int ahead = calls.size();
        for (int what = -1; what <= 20; what++) {
            call("status", what);
        }
        for (int place = 0; place < x.status(0); place++) {
            for (int what = 0; what <= 4; what++) {
                call("placeOf", place, what);
            }
        }
        for (int ask = 0; ask < x.status(3); ask++) {
            for (int what = 0; what <= 7; what++) {
                call("askOf", ask, what);
            }
            long spans = call("many", ask);
            for (int i = 0; i < spans; i++) {
                call("span", ask, i);
            }
        }
        for (int s = 0; s < 8; s++) {
            call("holds", s);
            for (int i = 0; i < 40; i++) {
                call("element", s, i);
            }
        }
        while (calls.size() > ahead) {
            calls.remove(calls.size() - 1);
        }
    }
}
