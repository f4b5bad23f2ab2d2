import java.lang.reflect.InvocationTargetException;
import java.lang.reflect.Method;
import java.lang.reflect.Modifier;
import java.util.ArrayList;
import java.util.Comparator;
import java.util.List;
import java.util.NoSuchElementException;
import java.util.Random;

/** Any arguments in any state: no call throws, but led, and that nothing but what the document says. */
public final class BoundsTest {
    private static final int[] NUMBERS = {Integer.MIN_VALUE, Integer.MIN_VALUE + 1, -65537, -64, -3, -2, -1, 0, 1, 2, 3,
        4, 5, 6, 7, 8, 11, 12, 13, 19, 20, 21, 30, 31, 32, 33, 63, 64, 65, 99, 100, 101, 255, 256, 899, 900, 901, 999,
        1000, 65535, 65536, 65537, Integer.MAX_VALUE - 1, Integer.MAX_VALUE};
    private static final String FULL = "well now 1;fact a odds 1;fact b odds 9;fact c odds 5;fact d odds 2;fact e odds 7;"
        + "fact f odds 4;law a or f;truth a,c,e;house h first 0 each 1 twins 99;house i first 1 each 1 twins 0;"
        + "house j first 999 each 99 twins 50;house k first 4 each 3 twins 9;house l first 2 each 7 twins 8;"
        + "house m first 7 each 5 twins 1;twin h 0;twin h 30;twin j 3;ends k 0;ends l 9;question p a;question q b;"
        + "question r c;question s d;question t e;question u f;question v a and b or c;"
        + "question w a and b or c and d or e and f;told h p yes;told i q no;told j r yes;told k w no;told l w yes;"
        + "told m v no;told h u yes;told i u no;told h w yes;told j q yes;told k t yes;told l t no;"
        + "stone yes;stone no;stone yes;stone no;weds h i;weds i j;weds k l";

    public static void main(String[] args) {
        List<Method> calls = new ArrayList<>();
        for (Method m : OneAnswer.class.getDeclaredMethods()) {
            if (Modifier.isPublic(m.getModifiers())) {
                calls.add(m);
            }
        }
        calls.sort(Comparator.comparing(Method::getName));
        for (long seed = 0; seed < 400; seed++) {
            run(new Random(seed), calls);
        }
        everyPair(calls);
        Check.end();
    }

    private static OneAnswer begun(Random random) {
        OneAnswer x = new OneAnswer();
        switch (random.nextInt(4)) {
            case 0 -> Check.load(x, FULL);
            case 1 -> Check.load(x, new WellText(random).make());
            case 2 -> {
                for (int i = random.nextInt(46); i > 0; i--) {
                    x.feed(random.nextInt(), random.nextInt(), random.nextInt(), random.nextInt(), random.nextInt());
                }
            }
            default -> {
            }
        }
        return x;
    }

    private static void run(Random random, List<Method> calls) {
        OneAnswer x = begun(random);
        for (int i = 0; i < 450; i++) {
            Method m = calls.get(random.nextInt(calls.size()));
            Object[] arguments = new Object[m.getParameterCount()];
            for (int p = 0; p < arguments.length; p++) {
                boolean small = random.nextInt(3) > 0;
                arguments[p] = m.getParameterTypes()[p] == boolean.class ? (Object) random.nextBoolean()
                    : (Object) (small ? random.nextInt(8) : NUMBERS[random.nextInt(NUMBERS.length)]);
            }
            call(x, m, arguments);
        }
    }

    private static void everyPair(List<Method> calls) {
        OneAnswer x = new OneAnswer();
        Check.due("the full well", Check.load(x, FULL), 6);
        for (Method m : calls) {
            for (int a : NUMBERS) {
                for (int b : NUMBERS) {
                    Object[] arguments = new Object[m.getParameterCount()];
                    for (int p = 0; p < arguments.length; p++) {
                        arguments[p] = m.getParameterTypes()[p] == boolean.class ? (Object) (a > b)
                            : (Object) (p == 0 ? a : p == 1 ? b : a ^ b);
                    }
                    call(x, m, arguments);
                }
            }
        }
    }

    private static void call(OneAnswer x, Method m, Object[] arguments) {
        int before = x.trouble();
        try {
            m.invoke(x, arguments);
        } catch (InvocationTargetException e) {
            boolean allowed = m.getName().equals("led") && e.getCause().getClass() == NoSuchElementException.class;
            Check.due(m.getName() + " throws " + e.getCause(), allowed, true);
            Check.due("trouble behind a throw", x.trouble(), before);
        } catch (IllegalAccessException e) {
            Check.due(m.getName() + " " + e, false, true);
        }
        Check.due("trouble behind " + m.getName(), x.trouble() >= 0 && x.trouble() <= 6, true);
        Check.due("where", x.where() == -1, x.trouble() != 4);
    }
}
