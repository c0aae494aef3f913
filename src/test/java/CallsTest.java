import java.lang.reflect.InvocationTargetException;
import java.lang.reflect.Method;
import java.lang.reflect.Modifier;
import java.util.ArrayList;
import java.util.Arrays;
import java.util.Comparator;
import java.util.List;
import java.util.NoSuchElementException;
import java.util.Random;

/** Any calls with any numbers: nothing is thrown but by duel(), and two objects answer the same. */
public final class CallsTest {
    private static final int[] ODD = {Integer.MIN_VALUE, Integer.MAX_VALUE, -1001, -3, -2, -1, 0, 1, 2, 7, 8, 9, 10, 11,
        17, 18, 31, 32, 33, 64, 127, 128, 255, 256, 300, 301, 999999, 1000000, 0x613e623b, 0x6b61206b, 0x75616220, 0x7761313b};

    private static final Check CHECK = new Check("CallsTest");
    private static final Random RANDOM = new Random(3);

    public static void main(String[] args) throws IllegalAccessException {
        List<Method> face = new ArrayList<>();
        for (Method m : DuelRound.class.getDeclaredMethods()) {
            if (Modifier.isPublic(m.getModifiers())) {
                face.add(m);
            }
        }
        face.sort(Comparator.comparing(Method::getName));
        for (int run = 0; run < 2000; run++) {
            DuelRound one = new DuelRound();
            DuelRound other = new DuelRound();
            for (int i = 0; i < 200; i++) {
                Method m = face.get(RANDOM.nextInt(face.size()));
                Object[] numbers = numbers(m.getParameterCount());
                String call = "run " + run + ": " + m.getName() + Arrays.toString(numbers);
                String first = answer(one, m, numbers);
                CHECK.due(call + " answered " + first + " the first time, the same", first.equals(answer(other, m, numbers)), true);
                boolean mayThrow = m.getName().equals("duel") && first.equals(NoSuchElementException.class.getName());
                CHECK.due(call + " throws " + first, first.indexOf('.') >= 0 && !mayThrow, false);
            }
        }
        CHECK.end();
    }

    private static Object[] numbers(int count) {
        Object[] numbers = new Object[count];
        for (int i = 0; i < count; i++) {
            int range = RANDOM.nextInt(3) == 0 ? 256 : 9;
            numbers[i] = RANDOM.nextInt(4) == 0 ? ODD[RANDOM.nextInt(ODD.length)] : RANDOM.nextInt(range);
        }
        return numbers;
    }

    /** The answer, or the name of what was thrown. */
    private static String answer(DuelRound d, Method m, Object[] numbers) throws IllegalAccessException {
        try {
            return String.valueOf(m.invoke(d, numbers));
        } catch (InvocationTargetException e) {
            return e.getCause().getClass().getName();
        }
    }
}
