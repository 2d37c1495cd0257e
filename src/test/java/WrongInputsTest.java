import java.lang.reflect.InvocationTargetException;
import java.lang.reflect.Method;
import java.lang.reflect.Modifier;
import java.util.ArrayList;
import java.util.Comparator;
import java.util.List;
import java.util.Random;

/** Every method with numbers of all kinds in all kinds of states: none may throw, and refused calls change nothing. */
public final class WrongInputsTest {
    private static final int[] ODD = {
        Integer.MIN_VALUE, Integer.MIN_VALUE + 1, -1000, -7, -2, -1, 0, 1, 2, 3, 4, 5, 6, 7, 8, 9, 10, 11, 19, 20, 21, 60, 100,
        101, 120, 121, 199, 200, 201, 242, 243, 399, 400, 401, 999, 1000, 1001, 65535, 65536, 1 << 28, 1 << 30,
        Integer.MAX_VALUE - 1, Integer.MAX_VALUE};
    private static final String[] TEXTS = {
        "00000", "11111p1/22222t3", "00000/00001/00002/00010", "22222p19t7o9", "0", "x", "", "   ", "do drop end",
        "if end place=begin place do set end turn 3,drop begin", "do drop begin,drop end,set end shape begin shape",
        "((((((((", "not not not", "if not", "do set end", "99999999999999999999", "p", "/", ";", "do drop end;"};
    private static int wrong = 0;

    public static void main(String[] args) throws IllegalAccessException {
        List<Method> methods = new ArrayList<>();
        for (Method method : HandTongue.class.getDeclaredMethods()) {
            if (Modifier.isPublic(method.getModifiers())) {
                methods.add(method);
            }
        }
        methods.sort(Comparator.comparing(Method::getName));
        long calls = 0;
        for (int seed = 0; seed < 400 && wrong == 0; seed++) {
            calls += run(new Random(seed), methods);
        }
        System.out.println("WrongInputsTest: " + calls + " calls, " + wrong + " wrong");
        if (wrong != 0 || methods.size() != 36) {
            System.exit(1);
        }
    }

    private static int run(Random random, List<Method> methods) throws IllegalAccessException {
        HandTongue h = new HandTongue();
        int small = 1 + random.nextInt(3);
        for (int i = 0; i < 512; i++) {
            if (random.nextInt(6) == 0) {
                text(h, random);
                continue;
            }
            Method method = methods.get(random.nextInt(methods.size()));
            Object[] numbers = new Object[method.getParameterCount()];
            for (int j = 0; j < numbers.length; j++) {
                numbers[j] = random.nextInt(4) < small ? random.nextInt(5) - 1 : ODD[random.nextInt(ODD.length)];
            }
            int[] before = counted(h);
            Object answer = null;
            try {
                answer = method.invoke(h, numbers);
            } catch (InvocationTargetException thrown) {
                wrong++;
                System.out.println(method.getName() + java.util.Arrays.toString(numbers) + " threw " + thrown.getCause());
            }
            check(h, method.getName(), answer, before);
        }
        return 512;
    }

    private static int[] counted(HandTongue h) {
        return new int[] {h.count(0), h.count(1), h.count(2), h.count(3), h.best(-1)};
    }

    private static void check(HandTongue h, String name, Object answer, int[] before) {
        long number = answer instanceof Long ? (Long) answer : answer instanceof Integer ? (Integer) answer : -99;
        int[] after = counted(h);
        boolean same = java.util.Arrays.equals(before, after);
        if (number < -6 || number == -3 || number < 0 && !same && !name.equals("end")) {
            wrong++;
            System.out.println(name + " answered " + number + ", counts changed: " + !same);
        }
    }

    private static void text(HandTongue h, Random random) {
        String text = TEXTS[random.nextInt(TEXTS.length)];
        int start = h.count(4);
        for (int from = 0; from < text.length(); from += 20) {
            int[] five = new int[5];
            for (int i = 0; i < 20 && from + i < text.length(); i++) {
                five[i / 4] |= text.charAt(from + i) << 24 - 8 * (i % 4);
            }
            h.feed(five[0], five[1], five[2], five[3], five[4]);
        }
        h.end(start + text.length());
        if (random.nextBoolean()) {
            h.sign();
        } else {
            h.rules();
        }
    }
}
