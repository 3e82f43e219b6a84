import java.lang.reflect.InvocationTargetException;
import java.lang.reflect.Method;
import java.util.HashMap;
import java.util.List;
import java.util.Map;

/**
 * An object that is asked calls told as texts, such as "put(0, 3, 1, d:0.5)". A number is told in tens, as 0x and bits,
 * as f: or d: and what the bits of a float or a double mean, as least or most (of the ints).
 */
final class Asked {
    private static final int MOST_CALLS = 512;
    private static final Map<String, Method> CALLS = new HashMap<>();
    private final TableBench bench = new TableBench();
    private int asked;

    static {
        for (Method one : TableBench.class.getDeclaredMethods()) {
            CALLS.put(one.getName() + one.getParameterCount(), one);
        }
    }

    /** A new object with these calls behind it. */
    static Asked after(List<String> calls) {
        Asked one = new Asked();
        for (String call : calls) one.ask(call);
        return one;
    }

    long ask(String call) {
        asked++;
        if (asked > MOST_CALLS) throw new IllegalStateException("no answer is promised any more: " + call);
        String inside = call.substring(call.indexOf('(') + 1, call.length() - 1);
        String[] told = inside.isEmpty() ? new String[0] : inside.split(", ");
        Method method = CALLS.get(call.substring(0, call.indexOf('(')) + told.length);
        Object[] with = new Object[told.length];
        for (int i = 0; i < told.length; i++) {
            long number = number(told[i]);
            with[i] = method.getParameterTypes()[i] == long.class ? (Object) number : (Object) Math.toIntExact(number);
        }
        try {
            return ((Number) method.invoke(bench, with)).longValue();
        } catch (InvocationTargetException thrown) {
            throw new IllegalStateException(call + " throws", thrown.getCause());
        } catch (IllegalAccessException shut) {
            throw new IllegalStateException(call + " is not open", shut);
        }
    }

    private static long number(String told) {
        if (told.startsWith("f:")) return Float.floatToRawIntBits(Float.parseFloat(told.substring(2)));
        if (told.startsWith("d:")) return Double.doubleToRawLongBits(Double.parseDouble(told.substring(2)));
        if (told.startsWith("0x")) return Long.parseUnsignedLong(told.substring(2), 16);
        if (told.equals("least")) return Integer.MIN_VALUE;
        return told.equals("most") ? Integer.MAX_VALUE : Long.parseLong(told);
    }
}
