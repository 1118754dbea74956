import java.lang.reflect.InvocationTargetException;
import java.lang.reflect.Method;
import java.lang.reflect.Modifier;
import java.util.Arrays;

/**
 * All calls with numbers from far outside and from the edges, in several states: none may throw, and a
 * refused one changes nothing but STATUS, which counts it once by its reason.
 */
public final class RefusalsTest {
    private static final int[] MANY = {Integer.MIN_VALUE, -11, -2, -1, 0, 1, 2, 3, 5, 6, 7, 8, 10, 11, 12, 21, 44, 60, 61, 99, 100,
        127, 128, 150, 1234567, 444444, 444445, 999999, 1000000, 1111111, 7654321, 7654322, 2147483647};
    private static final int[] FEW = {Integer.MIN_VALUE, -1, 0, 1, 3, 6, 7, 20, 21, 99, 100, 444444, 444445, Integer.MAX_VALUE};
    private static int wrong = 0;

    private static BarkPost state(int which) {
        BarkPost x = new BarkPost();
        if (which == 0) return x;
        for (int t = 0; t < (which == 1 ? 3 : 7); t++) x.tree(t % 6);
        for (int t = 1; t < x.count(0); t++) x.touch(t - 1, t, 1);
        x.fell(1, 1);
        x.season(5);
        if (which == 1) return x;
        for (int i = 0; i < 6; i++) {
            x.note(i, 12, i, 1, 1);
            x.came(1234567, i, 12);
        }
        for (int i = 0; i < 150; i++) x.type("wood 1;tree 5;".charAt(i % 14));
        x.image(1);
        return x;
    }

    private static long[] refusals(BarkPost x) {
        return new long[] {x.status(0), x.status(1), x.status(2)};
    }

    private static void tell(String what) {
        wrong++;
        if (wrong < 20) System.out.println(what);
    }

    private static void callOnce(Method m, Object[] args, int which, BarkPost x) throws ReflectiveOperationException {
        String call = m.getName() + Arrays.toString(args) + " in state " + which;
        long before = x.digest();
        long[] counted = refusals(x);
        long got;
        try {
            got = ((Number) m.invoke(x, args)).longValue();
        } catch (InvocationTargetException e) {
            tell(call + " threw " + e.getCause());
            return;
        }
        boolean otherWhat = m.getName().equals("status") && got == -1;
        int reason = otherWhat ? 0 : got <= -2 && got >= -4 && !m.getName().equals("digest") ? (int) -got - 2 : -1;
        if (reason >= 0) {
            counted[reason]++;
            if (x.digest() != before) tell(call + " was refused and changed the state");
        }
        if (!Arrays.equals(counted, refusals(x))) tell(call + " answered " + got + " and left STATUS at " + Arrays.toString(refusals(x)));
    }

    /** A call that is taken may leave another state: the next one begins from a new object then. */
    private static void callAll(Method m, int which) throws ReflectiveOperationException {
        int places = m.getParameterCount();
        int[] numbers = places > 3 ? FEW : MANY;
        long all = 1;
        for (int i = 0; i < places; i++) all *= numbers.length;
        BarkPost x = state(which);
        long clean = x.digest();
        for (long k = 0; k < all; k++) {
            Object[] args = new Object[places];
            long rest = k;
            for (int i = 0; i < places; i++) {
                args[i] = numbers[(int) (rest % numbers.length)];
                rest /= numbers.length;
            }
            callOnce(m, args, which, x);
            if (x.digest() != clean) x = state(which);
        }
    }

    public static void main(String[] args) throws ReflectiveOperationException {
        for (Method m : BarkPost.class.getDeclaredMethods()) {
            if (!Modifier.isPublic(m.getModifiers())) continue;
            for (int which = 0; which < 3; which++) callAll(m, which);
        }
        System.out.println(wrong == 0 ? "no call throws, refused ones change nothing" : wrong + " calls are not as due");
        if (wrong != 0) System.exit(1);
    }
}
