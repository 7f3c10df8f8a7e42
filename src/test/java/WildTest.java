import java.lang.reflect.InvocationTargetException;
import java.lang.reflect.Method;
import java.lang.reflect.Modifier;
import java.util.ArrayList;
import java.util.List;
import java.util.NoSuchElementException;
import java.util.Random;

/** Calls with arguments of all sorts in all sorts of states: nothing may be thrown but what the document names. */
public final class WildTest {
    private static final int[] ODD = {Integer.MIN_VALUE, Integer.MIN_VALUE + 1, -1000000, -240, -2, -1, 0, 1, 2, 3, 4,
        5, 6, 7, 8, 9, 10, 12, 13, 15, 16, 17, 20, 30, 39, 40, 41, 59, 60, 61, 99, 100, 101, 239, 240, 241, 999, 1000,
        9999, 10000, 1 << 30, Integer.MAX_VALUE - 1, Integer.MAX_VALUE};
    private static final String[] TEXTS = {"k", "k;k;k", "sm2p1t2;k;k", "sm9t20;k;k;k;k;k;k", "o01;w00:7;r00;c0",
        "o11;w10:7;r10;c1", "o20;r20;r21;c2;o20;a2", "p;p;p;p;p;p", "s", "k;", "w00:100"};

    public static void main(String[] args) throws Exception {
        List<Method> face = new ArrayList<>();
        for (Method method : LateStamps.class.getDeclaredMethods()) {
            if (Modifier.isPublic(method.getModifiers())) face.add(method);
        }
        face.sort(java.util.Comparator.comparing(Method::getName));
        for (int seed = 0; seed < 600; seed++) {
            Random random = new Random(seed);
            LateStamps x = new LateStamps();
            for (int call = 0; call < 512; call++) {
                if (random.nextInt(12) == 0) {
                    feed(x, TEXTS[random.nextInt(TEXTS.length)]);
                } else {
                    call(x, face.get(random.nextInt(face.size())), random, seed);
                }
            }
        }
        System.out.println("nothing was thrown that is not told");
    }

    private static void feed(LateStamps x, String text) {
        x.end(0);
        for (int i = 0; i < text.length(); i++) x.feed(0, text.charAt(i), 0, 0, 0);
    }

    private static void call(LateStamps x, Method method, Random random, int seed) throws Exception {
        Class<?>[] types = method.getParameterTypes();
        Object[] values = new Object[types.length];
        boolean wild = random.nextInt(5) == 0;
        for (int i = 0; i < values.length; i++) {
            int value = wild ? ODD[random.nextInt(ODD.length)] : random.nextInt(8);
            if (wild && random.nextInt(20) == 0) value = random.nextInt();
            if (types[i] == long.class) values[i] = random.nextLong();
            else values[i] = value;
        }
        try {
            method.invoke(x, values);
        } catch (InvocationTargetException e) {
            boolean told = method.getName().equals("seat") && e.getCause().getClass() == NoSuchElementException.class;
            if (!told) {
                System.out.println("seed " + seed + ": " + method.getName() + java.util.Arrays.toString(values));
                e.getCause().printStackTrace(System.out);
                System.exit(1);
            }
        }
    }
}
