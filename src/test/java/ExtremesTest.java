import java.lang.reflect.InvocationTargetException;
import java.lang.reflect.Method;
import java.util.ArrayList;
import java.util.Comparator;
import java.util.List;
import java.util.NoSuchElementException;
import java.util.Random;

/** No call throws, whatever it is given in whatever state, but for what the document tells of tape(). */
public final class ExtremesTest {
    private static final int[] NUMBERS = {Integer.MIN_VALUE, Integer.MIN_VALUE + 1, -1000000, -2, -1, 0, 1, 2, 3, 4, 5,
        7, 8, 9, 10, 11, 12, 15, 16, 23, 24, 39, 40, 41, 59, 60, 95, 96, 99, 100, 240, 241, 999, 1000, 1 << 30,
        Integer.MAX_VALUE - 1, Integer.MAX_VALUE};

    public static void main(String[] args) {
        Check check = new Check("ExtremesTest");
        List<Method> methods = new ArrayList<>();
        for (Method method : SpoolHall.class.getDeclaredMethods()) {
            if (java.lang.reflect.Modifier.isPublic(method.getModifiers())) {
                methods.add(method);
            }
        }
        methods.sort(Comparator.comparing(Method::getName));
        for (int seed = 0; seed < 600; seed++) {
            Random chance = new Random(seed);
            SpoolHall x = new SpoolHall();
            if (seed % 6 != 0) {
                Check.tell(x, "sn8d" + (seed % 3 + 1) + "g2l4;t;tu5;t;t;t;t;t;t;f;ft1b9;ft2;ft3b4;fb3", 0);
                Check.tell(x, "a0;a1;s;c1,4;x;p40;l;r4;w7,9", 1);
            }
            for (int call = 0; call < 480; call++) {
                tryCall(check, x, methods.get(chance.nextInt(methods.size())), chance);
            }
        }
        check.finish();
    }

    private static void tryCall(Check check, SpoolHall x, Method method, Random chance) {
        Object[] given = new Object[method.getParameterCount()];
        for (int i = 0; i < given.length; i++) {
            boolean isLong = method.getParameterTypes()[i] == long.class;
            int number = NUMBERS[chance.nextInt(NUMBERS.length)];
            int small = chance.nextInt(9);
            given[i] = isLong ? (Object) chance.nextLong() : (Object) (chance.nextBoolean() ? number : small);
        }
        try {
            method.invoke(x, given);
        } catch (InvocationTargetException e) {
            boolean told = method.getName().equals("tape") && e.getCause() instanceof NoSuchElementException;
            check.due(method.getName() + java.util.Arrays.toString(given) + " threw " + e.getCause(), told, true);
        } catch (IllegalAccessException e) {
            check.due("the face is public", false, true);
        }
    }
}
