import java.lang.reflect.InvocationTargetException;
import java.lang.reflect.Method;
import java.util.Arrays;
import java.util.Comparator;
import java.util.NoSuchElementException;
import java.util.Random;

/** No call throws by itself: all calls with all kinds of arguments, by fixed seeds, in states that come up by that. */
public final class Wild {
    private static final int[] ENDS = {Integer.MIN_VALUE, Integer.MIN_VALUE + 1, -100001, -10000, -513, -512, -100, -10, -9, -5, -4, -2, -1,
        8, 9, 10, 12, 13, 14, 20, 21, 31, 32, 33, 63, 64, 99, 100, 511, 512, 513, 999, 1000, 9999, 10000, 65535, 65536,
        Integer.MAX_VALUE - 1, Integer.MAX_VALUE};
    private static final String[] TEXTS = {"p240;p120;t100;t50", "p1", "t999;p999", "r9;ba1;bb-1;r99;sa+;oa", "ba0;bb0;bc0;bd0", "w*w*w*w",
        "w/(b-4)", "((((w))))", "-w+--500", "128*256*256*256/-1", "", "((((((((", "p1;p1;p1;p1;p1;p1;p1;p1;p1"};

    private static int wrong = 0;

    public static void main(String[] args) {
        Method[] calls = Arrays.stream(LighterAtDusk.class.getMethods())
            .filter(call -> call.getDeclaringClass() == LighterAtDusk.class)
            .sorted(Comparator.comparing(Method::getName))
            .toArray(Method[]::new);
        int made = 0;
        for (int seed = 1; seed <= 300 && wrong < 10; seed++) {
            made += oneRun(calls, seed);
        }
        System.out.println(made + " calls, " + wrong + " threw what they must not");
        if (wrong != 0) {
            System.exit(1);
        }
    }

    private static int oneRun(Method[] calls, int seed) {
        Random random = new Random(seed);
        LighterAtDusk x = new LighterAtDusk();
        int made = 0;
        while (made < 480) {
            if (random.nextInt(12) == 0) {
                made += tell(x, TEXTS[random.nextInt(TEXTS.length)]);
            }
            Method call = calls[random.nextInt(calls.length)];
            boolean dear = call.getName().equals("start") || call.getName().equals("cross");
            if (!dear || random.nextInt(4) == 0) {
                one(x, call, random);
                made++;
            }
        }
        return made;
    }

    private static int tell(LighterAtDusk x, String text) {
        x.end(0);
        for (int p = 0; p < text.length(); p += 4) {
            int v = 0;
            for (int q = p; q < p + 4; q++) {
                v = v << 8 | (q < text.length() ? text.charAt(q) : 0);
            }
            x.sign(v);
        }
        x.end(text.length());
        return 2 + (text.length() + 3) / 4;
    }

    private static void one(LighterAtDusk x, Method call, Random random) {
        Object[] arguments = new Object[call.getParameterCount()];
        for (int k = 0; k < arguments.length; k++) {
            arguments[k] = random.nextInt(5) == 0 ? ENDS[random.nextInt(ENDS.length)] : random.nextInt(1 << random.nextInt(10));
        }
        try {
            call.invoke(x, arguments);
        } catch (InvocationTargetException e) {
            boolean may = call.getExceptionTypes().length > 0;
            if (!may || e.getCause().getClass() != NoSuchElementException.class) {
                wrong++;
                System.out.println(call.getName() + Arrays.toString(arguments) + " threw " + e.getCause());
            }
        } catch (IllegalAccessException e) {
            wrong++;
            System.out.println(call.getName() + " can't be called");
        }
    }
}
