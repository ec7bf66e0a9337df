import java.lang.reflect.Method;
import java.util.ArrayList;
import java.util.Collections;
import java.util.HashMap;
import java.util.List;
import java.util.Map;

/** One call, written as the document writes it ("put(0, 160)"), which can be made on the class and on its twin. */
final class Call {
    private static final Map<String, Method> OF_CLASS = methodsOf(LooseHeap.class);
    private static final Map<String, Method> OF_TWIN = methodsOf(Twin.class);

    private final String text;
    private final Method ofClass;
    private final Method ofTwin;
    private final Object[] numbers;

    private Call(String text, String name, Object[] numbers) {
        this.text = text;
        this.numbers = numbers;
        ofClass = OF_CLASS.get(name);
        ofTwin = OF_TWIN.get(name);
        if (ofClass == null || ofTwin == null || ofClass.getParameterCount() != numbers.length) {
            throw new IllegalArgumentException("no such call: " + text);
        }
    }

    private static Map<String, Method> methodsOf(Class<?> type) {
        Map<String, Method> found = new HashMap<>();
        for (Method method : type.getDeclaredMethods()) {
            found.put(method.getName(), method);
        }
        return found;
    }

    static Call of(String text) {
        int open = text.indexOf('(');
        String inside = text.substring(open + 1, text.length() - 1).trim();
        String[] parts = inside.isEmpty() ? new String[0] : inside.split(",");
        Object[] numbers = new Object[parts.length];
        for (int i = 0; i < parts.length; i++) {
            numbers[i] = Integer.valueOf(parts[i].trim());
        }
        return new Call(text, text.substring(0, open), numbers);
    }

    /** Rows of calls, each "call" or, to be made again and again, "n x call". */
    static List<Call> all(String... rows) {
        List<Call> found = new ArrayList<>();
        for (String row : rows) {
            int cross = row.indexOf(" x ");
            Call call = of(cross < 0 ? row : row.substring(cross + 3));
            found.addAll(Collections.nCopies(cross < 0 ? 1 : Integer.parseInt(row.substring(0, cross)), call));
        }
        return found;
    }

    /** Of the numbers given, as many as the call takes. */
    static Call of(String name, int... given) {
        Object[] numbers = new Object[OF_CLASS.get(name).getParameterCount()];
        StringBuilder text = new StringBuilder(name).append('(');
        for (int i = 0; i < numbers.length; i++) {
            numbers[i] = given[i];
            text.append(i == 0 ? "" : ", ").append(given[i]);
        }
        return new Call(text.append(')').toString(), name, numbers);
    }

    long on(LooseHeap x) {
        return answer(ofClass, x);
    }

    long on(Twin x) {
        return answer(ofTwin, x);
    }

    private long answer(Method method, Object x) {
        try {
            return ((Number) method.invoke(x, numbers)).longValue();
        } catch (ReflectiveOperationException thrown) {
            throw new IllegalStateException(text + " threw", thrown);
        }
    }

    @Override
    public String toString() {
        return text;
    }
}
