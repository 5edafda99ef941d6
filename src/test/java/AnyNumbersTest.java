import java.lang.reflect.InvocationTargetException;
import java.lang.reflect.Method;
import java.lang.reflect.Modifier;
import java.util.Arrays;
import java.util.Comparator;

/** Every call with every choice of numbers at and beside the bounds: none throws, each answers as the Oracle does. */
public final class AnyNumbersTest {
    /** For calls that take five numbers. */
    private static final int[] FEW = {Integer.MIN_VALUE, -2, -1, 0, 1, 2, 3, 4, 23, 24, Integer.MAX_VALUE};
    private static final int[] MANY = {Integer.MIN_VALUE, -2, -1, 0, 1, 2, 3, 4, 7, 8, 9, 10, 12, 13, 16, 17, 23, 24, 60, 61, 72, 73, 255, 256,
        0xFFFFFF, 0x1000000, Integer.MAX_VALUE};
    /** An object is used for at most 512 calls, those ahead of these among them. */
    private static final int CALLS = 450;

    private SharedPockets x;
    private Oracle o;
    private int calls;

    public static void main(String[] args) throws ReflectiveOperationException {
        AnyNumbersTest test = new AnyNumbersTest();
        Method[] face = SharedPockets.class.getDeclaredMethods();
        Arrays.sort(face, Comparator.comparing(Method::getName));
        for (Method method : face) {
            if (Modifier.isPublic(method.getModifiers())) {
                test.anew();
                test.everyChoice(method, Oracle.class.getDeclaredMethod(method.getName(), method.getParameterTypes()));
            }
        }
        Due.end();
    }

    private void everyChoice(Method method, Method oracle) throws ReflectiveOperationException {
        int many = method.getParameterCount();
        int[] numbers = many > 4 ? FEW : MANY;
        int choices = 1;
        for (int k = 0; k < many; k++) {
            choices *= numbers.length;
        }
        Object[] given = new Object[many];
        for (int choice = 0; choice < choices; choice++) {
            int rest = choice;
            for (int k = 0; k < many; k++) {
                given[k] = numbers[rest % numbers.length];
                rest /= numbers.length;
            }
            if (calls >= CALLS) {
                anew();
            }
            calls++;
            Due.is(method.getName() + Arrays.toString(given), answer(method, x, given), answer(oracle, o, given));
        }
    }

    private static long answer(Method method, Object on, Object[] given) throws ReflectiveOperationException {
        try {
            return ((Number) method.invoke(on, given)).longValue();
        } catch (InvocationTargetException thrown) {
            throw new IllegalStateException(method.getName() + Arrays.toString(given) + " throws", thrown.getCause());
        }
    }

    /** Two THINGS, two COUSINS, and a little of all else. */
    private void anew() {
        x = new SharedPockets();
        o = new Oracle();
        calls = 0;
        tell("50s;31f", 0);
        tell("o1;h0", 1);
        int[][] hands = {{0, 0, 0, 0}, {1, 1, 0, 1}, {2, 1, 1, 0}, {4, 0, 1, 1}};
        for (int[] h : hands) {
            Due.is("hand", x.hand(h[0], h[1], h[2], h[3]), o.hand(h[0], h[1], h[2], h[3]));
        }
        Due.is("hole", x.hole(8, 4), o.hole(8, 4));
        Due.is("felt", x.felt(3, 1, 1), o.felt(3, 1, 1));
        for (int form = 0; form < 3; form++) {
            Due.is("sheet", x.sheet(form, form, 3 + form), o.sheet(form, form, 3 + form));
        }
    }

    private void tell(String signs, int text) {
        for (int i = 0; i < signs.length(); i++) {
            Due.is("type", x.type(text, signs.charAt(i)), o.type(text, signs.charAt(i)));
        }
    }
}
