import java.lang.reflect.Method;
import java.util.Random;

/** Calls with any arguments on any bytes: none may throw, and all are answered as the oracle answers them. */
public final class WildTest {
    private static final int[] ODD = {Integer.MIN_VALUE, Integer.MIN_VALUE + 1, -1000000, -3, -2, -1, 0, 1, 2, 3, 4, 5,
        6, 7, 8, 9, 10, 11, 12, 13, 20, 60, 99, 100, 101, 255, 399, 400, 401, 999998, 999999, 1000000, 1001, 1002,
        Integer.MAX_VALUE - 1, Integer.MAX_VALUE};

    private static final String[] CALLS = {"octet", "list", "put", "cut", "raise", "append", "finish", "join", "undo",
        "keep", "same", "number", "rank", "word", "value", "first", "state", "arc", "about", "range", "near", "like",
        "best", "pieces", "pack", "unpack", "count", "count", "count", "count"};

    private static int odd(Random random) {
        return random.nextInt(3) > 0 ? random.nextInt(6) - 1 : ODD[random.nextInt(ODD.length)];
    }

    /** Four bytes that are mostly such as some call takes. */
    private static int bytes(Random random, int kind) {
        String signs = new String[] {"abc", "ab,= 019", "ab-", "ab?*", "\1\2\3\0\4", "abcz`{\0 \177"}[kind];
        int number = 0;
        for (int i = 0; i < 4; i++) {
            number = number << 8 | (random.nextInt(60) == 0 ? random.nextInt(256)
                    : signs.charAt(random.nextInt(signs.length())));
        }
        return number;
    }

    public static void main(String[] args) throws ReflectiveOperationException {
        Exam exam = new Exam();
        int runs = args.length > 0 ? Integer.parseInt(args[0]) : 150;
        for (int seed = 1; seed <= runs && !exam.failed(); seed++) {
            run(exam, seed);
        }
        exam.close("WildTest");
    }

    private static void run(Exam exam, int seed) throws ReflectiveOperationException {
        Random random = new Random(seed);
        NumberWords x = new NumberWords();
        Oracle o = new Oracle();
        for (int i = 0; i < 512 && !exam.failed(); i++) {
            int call = random.nextInt(CALLS.length + 18);
            int a = odd(random);
            int b = odd(random);
            int c = odd(random);
            String name = "seed " + seed + ", call " + i + ": ";
            if (call < CALLS.length) {
                exam.due(name + CALLS[call] + " of " + a + ", " + b + ", " + c, answer(x, CALLS[call], a, b, c),
                        answer(o, CALLS[call], a, b, c));
            } else if (call < CALLS.length + 7) {
                int kind = random.nextInt(6);
                int[] f = new int[5];
                for (int j = 0; j < 5; j++) {
                    f[j] = bytes(random, kind);
                }
                exam.due(name + "feed", x.feed(f[0], f[1], f[2], f[3], f[4]), o.feed(f));
            } else {
                int n = random.nextInt(4) == 0 ? a : random.nextInt(21);
                exam.due(name + "end " + n, x.end(n), o.end(n));
            }
        }
    }

    /** The method of that name, of the class or of the oracle, with as many of the arguments as it takes. */
    private static int answer(Object of, String name, int... arguments) throws ReflectiveOperationException {
        for (Method method : of.getClass().getDeclaredMethods()) {
            if (method.getName().equals(name)) {
                Object[] some = new Object[method.getParameterCount()];
                for (int i = 0; i < some.length; i++) {
                    some[i] = arguments[i];
                }
                return (int) method.invoke(of, some);
            }
        }
        throw new NoSuchMethodException(name);
    }
}
