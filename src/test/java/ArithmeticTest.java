import java.lang.reflect.Constructor;
import java.lang.reflect.Field;
import java.lang.reflect.InvocationTargetException;
import java.lang.reflect.Method;
import java.math.BigInteger;
import java.util.Random;

/** The great numbers inside the class, by themselves: tables hardly ever come to the edges of long division. */
public final class ArithmeticTest {
    private static final int ROOM = 12, BITS = 30;
    private static final long[] LONGS = {
        0, 1, -1, Long.MAX_VALUE, Long.MIN_VALUE, 1L << 30, -(1L << 60), (1L << 60) - 1
    };
    private static final Due DUE = new Due();
    private final Class<?> bigs = Class.forName("TableBench$Big");
    private final Class<?> dividers = Class.forName("TableBench$Divider");
    private final Object divider = make(dividers);
    private final Random random = new Random(7);

    private ArithmeticTest() throws ReflectiveOperationException {
    }

    public static void main(String[] args) throws ReflectiveOperationException {
        ArithmeticTest test = new ArithmeticTest();
        test.longs();
        for (int i = 0; i < 40000; i++) {
            test.sums(test.number(1 + i % 5), test.number(1 + i % 4));
            test.quotients(test.number(1 + i % 7), test.number(1 + i % 4));
        }
        test.quotients(BigInteger.ZERO, BigInteger.TEN);
        test.quotients(BigInteger.TEN, BigInteger.ZERO);
        DUE.end();
    }

    /** Digits at their edges, mostly: there the guesses of long division are wrong. */
    private BigInteger number(int digits) {
        BigInteger number = BigInteger.ZERO;
        for (int i = 0; i < digits; i++) {
            int[] some = {0, 1, 2, (1 << BITS) - 1, (1 << BITS) - 2, 1 << 29, (1 << 29) - 1, (1 << 29) + 1,
                random.nextInt(1 << BITS), random.nextInt(100)};
            number = number.shiftLeft(BITS).add(BigInteger.valueOf(some[random.nextInt(some.length)]));
        }
        return random.nextBoolean() ? number : number.negate();
    }

    private void longs() throws ReflectiveOperationException {
        DUE.part("become");
        for (long number : LONGS) {
            Object one = make(bigs);
            call(one, "become", number);
            DUE.says(number + "", told(one), number + "");
            DUE.is("width of " + number, (int) call(one, "width"), BigInteger.valueOf(number).abs().bitLength());
        }
    }

    private void sums(BigInteger a, BigInteger b) throws ReflectiveOperationException {
        DUE.part("sums");
        Object x = big(a), y = big(b);
        call(x, "add", y, 1);
        DUE.says(a + " + " + b, told(x), a.add(b).toString());
        call(x, "add", y, -1);
        call(x, "add", y, -1);
        DUE.says(a + " - " + b, told(x), a.subtract(b).toString());
        Object product = make(bigs);
        call(product, "becomeProduct", big(a), y);
        DUE.says(a + " * " + b, told(product), a.multiply(b).toString());
        int factor = random.nextInt(2001) - 1000;
        call(y, "scaleBy", factor);
        DUE.says(b + " * " + factor, told(y), b.multiply(BigInteger.valueOf(factor)).toString());
    }

    private void quotients(BigInteger a, BigInteger b) throws ReflectiveOperationException {
        DUE.part("quotients");
        Object x = big(a);
        call(divider, "divide", x, big(b));
        boolean none = b.signum() == 0;
        DUE.says(a + " / " + b, told(x), none ? "0" : a.divide(b).toString());
        Field rest = dividers.getDeclaredField("rest");
        rest.setAccessible(true);
        DUE.says(a + " % " + b, told(rest.get(divider)), none ? a.toString() : a.remainder(b).toString());
        Object common = make(bigs);
        call(divider, "greatestIntoBoth", big(a), big(b), common);
        DUE.says("what goes into " + a + " and " + b, told(common), a.gcd(b).toString());
    }

    private Object make(Class<?> one) throws ReflectiveOperationException {
        Constructor<?> constructor = one.getDeclaredConstructor(int.class);
        constructor.setAccessible(true);
        return constructor.newInstance(ROOM);
    }

    private Object big(BigInteger number) throws ReflectiveOperationException {
        Object one = make(bigs);
        for (int i = 0; i < ROOM; i++) {
            call(one, "setDigit", i, number.abs().shiftRight(BITS * i).intValue() & (1 << BITS) - 1);
        }
        field(one, "direction").setInt(one, number.signum());
        call(one, "trim", ROOM);
        return one;
    }

    private String told(Object big) throws ReflectiveOperationException {
        BigInteger size = BigInteger.ZERO;
        for (int i = ROOM - 1; i >= 0; i--) {
            size = size.shiftLeft(BITS).add(BigInteger.valueOf((int) call(big, "digit", i)));
        }
        return size.multiply(BigInteger.valueOf(field(big, "direction").getInt(big))).toString();
    }

    private static Field field(Object of, String name) throws ReflectiveOperationException {
        Field field = of.getClass().getDeclaredField(name);
        field.setAccessible(true);
        return field;
    }

    private static Object call(Object of, String name, Object... with) throws ReflectiveOperationException {
        for (Method method : of.getClass().getDeclaredMethods()) {
            if (method.getName().equals(name)) {
                method.setAccessible(true);
                try {
                    return method.invoke(of, with);
                } catch (InvocationTargetException fault) {
                    throw new IllegalStateException(name, fault.getCause());
                }
            }
        }
        throw new NoSuchMethodException(name);
    }
}
