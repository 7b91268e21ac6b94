import java.lang.reflect.InvocationTargetException;
import java.lang.reflect.Method;
import java.lang.reflect.Modifier;
import java.util.ArrayList;
import java.util.Arrays;
import java.util.Comparator;
import java.util.List;
import java.util.NoSuchElementException;
import java.util.Random;
import java.util.Set;

/**
 * Whatever the numbers and whatever came before, a call answers, or throws what the document says where it says so: runs
 * of calls by chance, most with numbers at an edge or far beyond one. What they answer is ModelTest's.
 */
public final class AnyNumbersTest {
    private static final int RUNS = 400;
    private static final int CALLS = 180;
    private static final Set<String> THROWING = Set.of("person", "cloth", "piece", "row");
    private static final int[] EDGES = {-1, -2, -3, 10, 12, 13, 19, 20, 21, 26, 27, 40, 41, 59, 60, 61, 63, 76, 77, 80, 81,
        98, 99, 100, 108, 109, 127, 128, -128, -129, 255, 256, 511, 512, 998, 999, 1000, 9998, 9999, 10000, 32767, 32768,
        -32768, 65536, 1 << 30, 1 << 31, Integer.MAX_VALUE, Integer.MAX_VALUE - 1, Integer.MIN_VALUE + 1};
    private static final String[] TEXTS = {"5796/55", "1/2/3/4", "99999999999999999999999999/0", "", "x", "5/", "h+",
        "p50@0;p40@1;c25+2;c30;c10+3", "p1@3;p99@2;c99+9;c0;c50+5", "p0", "c5+", "h*l-w", "((((h<l)))*99)", "(((((h",
        "-h/(l-l)", "w*w*w*w*h", "999*999*999*999*999/-1", "0-2147", "k9;k9;w00;w11;m0=0;m1=99;g03;k5", "k;w0-;w1-",
        "m0=99;m0=0;m1=99;m1=0;m2=0;m2=99;m3=0;m4=99;m4=0", "0123012301230123", "00000000000000000000000000", "4"};

    private final Random random;
    private final SkirtsByTheDay x = new SkirtsByTheDay();

    private AnyNumbersTest(int run) {
        random = new Random(run);
    }

    public static void main(String[] args) throws IllegalAccessException {
        List<Method> calls = new ArrayList<>();
        for (Method method : SkirtsByTheDay.class.getDeclaredMethods()) {
            if (Modifier.isPublic(method.getModifiers())) {
                calls.add(method);
            }
        }
        calls.sort(Comparator.comparing(Method::getName));
        for (int run = 0; run < RUNS; run++) {
            new AnyNumbersTest(run).go(calls);
        }
        Check.finish("AnyNumbersTest");
    }

    private void go(List<Method> calls) throws IllegalAccessException {
        for (int k = 0; k < CALLS; k++) {
            if (random.nextInt(6) == 0) {
                read(TEXTS[random.nextInt(TEXTS.length)]);
            }
            make(calls.get(random.nextInt(calls.size())));
        }
    }

    private void read(String signs) {
        Check.text(x, signs);
        switch (random.nextInt(6)) {
            case 0:
                x.almanac();
                break;
            case 1:
                x.house();
                break;
            case 2:
                x.rule();
                break;
            case 3:
                x.year();
                break;
            case 4:
                x.way(random.nextInt(3));
                break;
            default:
                x.trunk(random.nextInt(3));
                break;
        }
    }

    private int number() {
        int kind = random.nextInt(12);
        if (kind == 0) {
            return random.nextInt();
        }
        return kind < 5 ? EDGES[random.nextInt(EDGES.length)] : random.nextInt(9);
    }

    private void make(Method call) throws IllegalAccessException {
        Object[] numbers = new Object[call.getParameterCount()];
        for (int k = 0; k < numbers.length; k++) {
            numbers[k] = number();
        }
        try {
            call.invoke(x, numbers);
        } catch (InvocationTargetException thrown) {
            boolean due = THROWING.contains(call.getName()) && thrown.getCause() instanceof NoSuchElementException;
            Check.due(call.getName() + Arrays.toString(numbers) + " threw " + thrown.getCause(), due, true);
        }
    }
}
