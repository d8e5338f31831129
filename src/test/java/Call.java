import java.lang.reflect.InvocationTargetException;
import java.lang.reflect.Method;
import java.util.ArrayList;
import java.util.Arrays;
import java.util.HashMap;
import java.util.List;
import java.util.Map;
import java.util.stream.Collectors;

/** One call with its arguments (a truth is 1 or 0), to be made of DrawnTold and of the model alike. */
record Call(String name, int[] values) {
    private static final Map<String, Method> METHODS = new HashMap<>();

    private static Method find(Class<?> of, String name) {
        return METHODS.computeIfAbsent(of.getName() + "." + name, key -> Arrays.stream(of.getDeclaredMethods())
            .filter(method -> method.getName().equals(name)).findFirst().orElseThrow());
    }

    long of(Object drawing) {
        Method method = find(drawing.getClass(), name);
        Class<?>[] types = method.getParameterTypes();
        Object[] arguments = new Object[values.length];
        for (int i = 0; i < values.length; i++) {
            if (types[i] == boolean.class) {
                arguments[i] = values[i] != 0;
            } else {
                arguments[i] = values[i];
            }
        }
        try {
            return ((Number) method.invoke(drawing, arguments)).longValue();
        } catch (InvocationTargetException e) {
            throw new IllegalStateException(this + " threw", e.getCause());
        } catch (IllegalAccessException e) {
            throw new IllegalStateException(e);
        }
    }

    /** Every choice of one value of each row. */
    static List<Call> all(String name, int[]... choices) {
        List<Call> calls = new ArrayList<>();
        int[] at = new int[choices.length];
        boolean more = true;
        while (more) {
            int[] values = new int[choices.length];
            for (int i = 0; i < at.length; i++) {
                values[i] = choices[i][at[i]];
            }
            calls.add(new Call(name, values));
            int turn = 0;
            while (turn < at.length && ++at[turn] == choices[turn].length) {
                at[turn++] = 0;
            }
            more = turn < at.length;
        }
        return calls;
    }

    @Override
    public String toString() {
        return name + Arrays.stream(values).mapToObj(Integer::toString).collect(Collectors.joining(", ", "(", ")"));
    }
}
