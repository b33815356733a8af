import java.lang.reflect.InvocationTargetException;
import java.lang.reflect.Method;
import java.lang.reflect.Modifier;
import java.util.ArrayList;
import java.util.Comparator;
import java.util.List;
import java.util.NoSuchElementException;
import java.util.Random;

/** Whatever the arguments are, no call throws but cell(), and that only what it names. */
public final class ExtremesTest extends Bench {
    private static final int[] NUMBERS = {Integer.MIN_VALUE, Integer.MIN_VALUE + 1, -1000000, -1000, -999, -64, -2, -1, 0,
        1, 2, 3, 4, 5, 8, 9, 10, 11, 23, 24, 25, 40, 41, 63, 64, 99, 100, 200, 201, 999, 1000, 9999, 10000, 639935, 639936,
        Integer.MAX_VALUE - 1, Integer.MAX_VALUE};
    private static final String[] TEXTS = {"",
        "phase p 0 1;phase q 63 63;phase r 5 9;phase s 5 60;latch a p 99 99 99;flop b q 0 0 0;latch c r 0 9 1;"
            + "latch d s 3 3 3;path a a 999 0;path a b 999 999;path b c 0 0;path c d 5 2;path d c 6 3;path d a 9 0;skew 99;",
        "period 9999;phase p 0 63;latch a p 0 0 0;latch b p 0 0 0;latch c p 0 0 0;path a b 999 0;path b c 999 0;"
            + "path c a 999 0;path a c 0 0;seed 99999;",
        "period 1;phase p 0 1;flop a p 99 0 99;path a a 999 999;", full("latch"), full("flop")};

    /** Ten CELLS, each with a path to the next one and to the third behind it, four to themselves: 24 paths in all. */
    private static String full(String kind) {
        StringBuilder t = new StringBuilder("period 9;phase p 0 1;phase q 63 63;phase r 5 9;phase s 5 60;");
        for (int i = 0; i < 10; i++) {
            t.append(kind).append(" " + (char) ('a' + i) + " " + (char) ('p' + i % 4) + " 9 9 9;");
        }
        for (int i = 0; i < 24; i++) {
            int goal = i < 10 ? (i + 1) % 10 : i < 20 ? (i + 3) % 10 : i - 20;
            t.append("path " + (char) ('a' + i % 10) + " " + (char) ('a' + goal) + " 9 9;");
        }
        return t.toString();
    }

    public static void main(String[] args) throws IllegalAccessException {
        List<Method> face = new ArrayList<>();
        for (Method m : LatchTimes.class.getDeclaredMethods()) {
            if (Modifier.isPublic(m.getModifiers())) {
                face.add(m);
            }
        }
        face.sort(Comparator.comparing(Method::getName));
        int wrong = face.size() == 45 ? 0 : 1;
        System.out.println(face.size() + " methods");
        Random random = new Random(20261117);
        for (int run = 0; run < 400; run++) {
            LatchTimes x = given(TEXTS[run % TEXTS.length]);
            for (int i = 0; i < 470; i++) {
                Method m = face.get(random.nextInt(face.size()));
                Class<?>[] types = m.getParameterTypes();
                Object[] values = new Object[types.length];
                for (int k = 0; k < types.length; k++) {
                    boolean small = random.nextBoolean();
                    int number = small ? random.nextInt(6) : NUMBERS[random.nextInt(NUMBERS.length)];
                    values[k] = types[k] == boolean.class ? (Object) (number % 2 == 0) : (Object) number;
                }
                if (m.getName().equals("text") && random.nextInt(4) > 0) {
                    continue;
                }
                try {
                    m.invoke(x, values);
                } catch (InvocationTargetException e) {
                    Throwable t = e.getCause();
                    boolean told = m.getName().equals("cell") && (t.getClass() == IndexOutOfBoundsException.class
                            || t.getClass() == NoSuchElementException.class);
                    if (!told) {
                        wrong++;
                        System.out.println(m.getName() + java.util.Arrays.toString(values) + " threw " + t);
                    }
                }
            }
        }
        System.out.println(wrong == 0 ? "nothing thrown that isn't promised" : wrong + " wrong");
        if (wrong != 0) {
            System.exit(1);
        }
    }
}
