import java.lang.reflect.InvocationTargetException;
import java.lang.reflect.Method;
import java.util.NoSuchElementException;

/** No call throws, whatever its arguments are, in states that are near the limits: but row, where the document says. */
public final class ExtremesTest {
    private static final int[] VALUES = {
        Integer.MIN_VALUE, -2147483647, -40, -3, -2, -1, 0, 1, 2, 3, 4, 8, 9, 13, 39, 40, 41, 100, 101, 400,
        2147483646, Integer.MAX_VALUE};
    private static final int[] FEW = {Integer.MIN_VALUE, -1, 0, 1, 2, 3, 9, 40, Integer.MAX_VALUE};

    private static int calls = 0;

    public static void main(String[] args) throws Exception {
        for (int state = 0; state < 8; state++) {
            for (Method method : FewProducts.class.getDeclaredMethods()) {
                if ((method.getModifiers() & 1) != 0) {
                    tryAll(state, method);
                }
            }
        }
        System.out.println(calls + " calls throw nothing");
    }

    private static void tryAll(int state, Method method) throws Exception {
        int many = method.getParameterCount();
        int[] values = many <= 2 ? VALUES : FEW;
        int all = 1;
        for (int k = 0; k < many; k++) {
            all *= values.length;
        }
        FewProducts x = state(state);
        for (int draw = 0; draw < all; draw++) {
            Object[] args = new Object[many];
            for (int k = 0, rest = draw; k < many; k++, rest /= values.length) {
                args[k] = values[rest % values.length];
            }
            try {
                calls++;
                method.invoke(x, args);
            } catch (InvocationTargetException e) {
                boolean isDue = method.getName().equals("row") && e.getCause() instanceof NoSuchElementException;
                if (!isDue) {
                    System.out.println("state " + state + ": " + method.getName() + java.util.Arrays.toString(args)
                        + " throws " + e.getCause());
                    System.exit(1);
                }
            }
            if (draw % 16 == 15) {
                x = state(state);
            }
        }
    }

    private static FewProducts state(int state) {
        FewProducts x = new FewProducts();
        int size = state % 2 == 0 ? 3 : 1;
        x.format(size, state < 6 ? size : 2, size, state < 4 ? 2 : 3);
        if (state % 4 >= 2) {
            x.keeps();
            for (int k = 0; k < 40; k++) {
                Due.write(x, k % 2 == 0 ? "a11*b11*c11" : "-a11*b11*c11");
                x.adds();
            }
            for (int k = 0; k < 100; k++) {
                x.sign(0x2c2c2c2c);
            }
        } else if (state >= 4) {
            for (int k = x.count(4); k > 0; k--) {
                x.drops(0);
            }
        }
        return x;
    }

    private ExtremesTest() {
    }
}
