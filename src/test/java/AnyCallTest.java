import java.lang.reflect.InvocationTargetException;
import java.lang.reflect.Method;
import java.lang.reflect.Modifier;
import java.util.ArrayList;
import java.util.Arrays;
import java.util.Comparator;
import java.util.List;
import java.util.Random;

/** No call throws, whatever its arguments are and whatever was called before. */
public final class AnyCallTest {
    private static final int[] EDGES = {Integer.MIN_VALUE, Integer.MIN_VALUE + 1, -65536, -3, -2, -1, 0, 1, 2, 3, 4, 5, 6, 7,
        8, 9, 10, 15, 31, 63, 64, 99, 100, 200, 201, 399, 400, 999, 1000, 9999, 10000, 65536,
        Integer.MAX_VALUE - 1, Integer.MAX_VALUE};
    private static final String[] TEXTS = {
        "level 9 8;level 9 8;level 9 8;level 9 8;level 9 8;level 9 8;level 9 8;level 9 8;barge 99 1 0 999;barge 1 1 1 999;"
            + "barge 99 0 0 1;barge 1 0 1 1;barge 50 1 0 0;barge 50 0 1 0;lag 20",
        "level 999 1;level 0 1;barge 99 1 1 0;lag 20",
        "level 0 1;level 0 1",
        "bar tips*99999*99999*99999*99999/up<water/down-need",
        "bar [not[not[not[not[not[step=0]]]]]]and here>there;bar wide=2",
        "bar 1", "", "level", "bar [[[[[[[[[[[1=1",
    };
    private static int wrong = 0;

    public static void main(String[] args) throws Exception {
        List<Method> methods = new ArrayList<>();
        for (Method m : WaterStair.class.getDeclaredMethods()) {
            if (Modifier.isPublic(m.getModifiers())) {
                methods.add(m);
            }
        }
        methods.sort(Comparator.comparing(Method::getName));
        for (int run = 1; run <= 400; run++) {
            anyRun(new Random(run), methods);
        }
        System.out.println(wrong + " calls threw");
        if (wrong != 0) {
            System.exit(1);
        }
    }

    private static void anyRun(Random random, List<Method> methods) throws Exception {
        WaterStair x = new WaterStair();
        for (int i = 0; i < 400; i++) {
            if (random.nextInt(20) == 0) {
                tell(x, TEXTS[random.nextInt(TEXTS.length)]);
            }
            Method m = methods.get(random.nextInt(methods.size()));
            Object[] values = new Object[m.getParameterCount()];
            for (int k = 0; k < values.length; k++) {
                boolean isFlag = m.getParameterTypes()[k] == boolean.class;
                values[k] = isFlag ? (Object) random.nextBoolean() : (Object) anyNumber(random);
            }
            try {
                m.invoke(x, values);
            } catch (InvocationTargetException e) {
                wrong++;
                System.out.println(m.getName() + Arrays.toString(values) + " threw " + e.getCause());
            }
        }
    }

    private static int anyNumber(Random random) {
        int kind = random.nextInt(8);
        return kind == 0 ? random.nextInt() : kind < 5 ? random.nextInt(9) - 1 : EDGES[random.nextInt(EDGES.length)];
    }

    private static void tell(WaterStair x, String text) {
        x.end(0);
        for (int from = 0; from < text.length(); from += 20) {
            int[] five = new int[5];
            for (int i = 0; i < 20; i++) {
                five[i / 4] = five[i / 4] << 8 | (from + i < text.length() ? text.charAt(from + i) : ' ');
            }
            x.feed(five[0], five[1], five[2], five[3], five[4]);
        }
        x.end(text.length());
        if (text.startsWith("level")) {
            x.stair();
        } else {
            x.rule();
        }
    }
}
