import java.lang.reflect.Method;
import java.lang.reflect.Modifier;
import java.nio.charset.StandardCharsets;
import java.util.Arrays;
import java.util.Random;

/** Every call with numbers of all sizes, in towns of several kinds: none may throw, whatever it answers. */
public final class NeverThrowsTest {
    private static final int[] NUMBERS = {Integer.MIN_VALUE, Integer.MIN_VALUE + 1, -65536, -100, -20, -3, -2, -1, 0, 1, 2, 3, 4, 5, 6, 7,
        8, 9, 10, 12, 13, 19, 20, 31, 32, 33, 40, 41, 64, 99, 119, 120, 255, 256, 900, 901, 1000, 65536, Integer.MAX_VALUE};

    private static final String[] TEXTS = {
        "", "town 1;", "town 1;goer 0 year 0;goer 0 year 19;goer 0 year 5;", "town 6;goer 5 year 19;",
        "town 2;street 0 1 sign 2;goer 0 year 0;",
        "town 6;street 0 1 sign 2;street 1 2 sign 2;street 2 3 sign 2;street 3 4 sign 2;street 4 5 sign 2;street 5 0 sign 2;"
            + "street 0 3 sign 2;street 1 4 sign 2;goer 5 year 19;goer 0 year 0;goer 3 year 9;bollards 9;"
            + "shifts : if against = 1 then bollards - 4 else 1 - street end;",
        "town 6;street 5 4 years 9 sign 2;street 4 3 back 9 sign 2;street 3 2 sign 1;street 2 1 sign 3;street 1 0;street 0 5;"
            + "street 5 3 years 1 sign 2;street 4 2 back 1 sign 2;goer 5 year 10;goer 4 year 10;goer 3 year 10;"
            + "shifts : if year > 9 then 0 - 999 * 999 * 999 else 999 * 999 * 999 end;may : year > 0 or goer < 2;",
        "town 6;street 5 4 sign 2;street 4 5 sign 2;street 5 4 sign 2;street 4 5 sign 2;street 5 4 sign 2;street 4 5 sign 2;"
            + "street 5 4 sign 2;street 4 5 sign 2;goer 5 year 19;goer 4 year 19;goer 4 year 0;shifts : year * 0 - 1 + against * 2;",
    };

    public static void main(String[] args) {
        Random random = new Random(7);
        int wrong = 0;
        long calls = 0;
        for (int round = 0; round < 40 * TEXTS.length; round++) {
            OneWayPast x = new OneWayPast();
            String text = TEXTS[round % TEXTS.length];
            if (tell(x, text) < 1 && !text.isEmpty()) {
                wrong++;
                System.out.println("a text is refused: " + text);
            }
            for (int i = 0; i < 500; i++) {
                Method m = anyMethod(random);
                Object[] values = anyValues(m, random, i % 2 == 0 ? 1 : 0);
                try {
                    m.invoke(x, values);
                    calls++;
                } catch (ReflectiveOperationException e) {
                    wrong++;
                    System.out.println(m.getName() + Arrays.toString(values) + " threw " + e.getCause());
                }
            }
        }
        System.out.println(calls + " calls, " + wrong + " threw");
        if (wrong != 0) {
            System.exit(1);
        }
    }

    private static int tell(OneWayPast x, String text) {
        byte[] bytes = Arrays.copyOf(text.getBytes(StandardCharsets.ISO_8859_1), (text.length() + 19) / 20 * 20);
        for (int from = 0; from < bytes.length; from += 20) {
            int[] five = new int[5];
            for (int i = 0; i < 20; i++) {
                five[i / 4] = five[i / 4] << 8 | bytes[from + i];
            }
            x.feed(five[0], five[1], five[2], five[3], five[4]);
        }
        return x.town(text.length());
    }

    private static Method anyMethod(Random random) {
        Method[] all = Arrays.stream(OneWayPast.class.getDeclaredMethods()).filter(m -> Modifier.isPublic(m.getModifiers()))
                .sorted((a, b) -> a.getName().compareTo(b.getName())).toArray(Method[]::new);
        Method m = all[random.nextInt(all.length)];
        // A new town mostly ends what could be tried in the one that is there.
        return m.getName().equals("town") && random.nextInt(20) > 0 ? anyMethod(random) : m;
    }

    /** small: numbers that mostly can be. */
    private static Object[] anyValues(Method m, Random random, int small) {
        Object[] values = new Object[m.getParameterCount()];
        for (int i = 0; i < values.length; i++) {
            int n = small == 1 && random.nextInt(10) > 0 ? random.nextInt(6) - 1 : NUMBERS[random.nextInt(NUMBERS.length)];
            if (m.getParameterTypes()[i] == long.class) {
                values[i] = random.nextInt(3) == 0 ? random.nextLong() : (long) n;
            } else {
                values[i] = n;
            }
        }
        return values;
    }
}
