import java.util.Random;

/** Calls with any arguments on any bytes: none may throw, and all are answered as the oracle answers them. */
public final class WildTest {
    private static final int[] ODD = {Integer.MIN_VALUE, Integer.MIN_VALUE + 1, -1000000, -3, -2, -1, 0, 1, 2, 3, 4, 5,
        6, 7, 8, 9, 10, 11, 12, 13, 20, 60, 99, 100, 101, 255, 399, 400, 401, 999998, 999999, 1000000, 1001, 1002,
        Integer.MAX_VALUE - 1, Integer.MAX_VALUE};

    private static int odd(Random random) {
        return random.nextInt(3) > 0 ? random.nextInt(6) - 1 : ODD[random.nextInt(ODD.length)];
    }

    /** Four bytes that are mostly such as some call takes. */
    private static int bytes(Random random, int kind) {
        String signs = new String[] {"abc", "ab,= 019", "ab-", "ab?*", "\1\2\3\0\4", "abcz`{\0 \177"}[kind];
        int number = 0;
        for (int i = 0; i < 4; i++) {
            number = number << 8 | (random.nextInt(60) == 0 ? random.nextInt(256)
                    : signs.charAt(random.nextInt(signs.length())));
        }
        return number;
    }

    public static void main(String[] args) {
        Exam exam = new Exam();
        int runs = args.length > 0 ? Integer.parseInt(args[0]) : 150;
        for (int seed = 1; seed <= runs && !exam.failed(); seed++) {
            run(exam, seed);
        }
        exam.close("WildTest");
    }

    private static void run(Exam exam, int seed) {
        Random random = new Random(seed);
        NumberWords x = new NumberWords();
        Oracle o = new Oracle();
        for (int i = 0; i < 512 && !exam.failed(); i++) {
            int call = random.nextInt(48);
            int a = odd(random);
            int b = odd(random);
            int c = odd(random);
            String name = "seed " + seed + ", call " + i + ": " + call + " of " + a + ", " + b + ", " + c;
            if (call > 40) {
                int kind = random.nextInt(6);
                int[] f = new int[5];
                for (int j = 0; j < 5; j++) {
                    f[j] = bytes(random, kind);
                }
                exam.due(name, x.feed(f[0], f[1], f[2], f[3], f[4]), o.feed(f));
            } else if (call > 29) {
                int n = random.nextInt(4) == 0 ? a : random.nextInt(21);
                exam.due(name, x.end(n), o.end(n));
            } else {
                exam.due(name, answer(x, call, a, b, c), answer(o, call, a, b, c));
            }
        }
    }

    private static int answer(NumberWords x, int call, int a, int b, int c) {
        return switch (call) {
            case 0 -> x.octet(a);
            case 1 -> x.list();
            case 2 -> x.put(a);
            case 3 -> x.cut();
            case 4 -> x.raise(a);
            case 5 -> x.append(a);
            case 6 -> x.finish();
            case 7 -> x.join(a, b, c);
            case 8 -> x.undo();
            case 9 -> x.keep(a);
            case 10 -> x.same(a);
            case 11 -> x.number();
            case 12 -> x.rank();
            case 13 -> x.word(a, b);
            case 14 -> x.value(a);
            case 15 -> x.first(a);
            case 16 -> x.state();
            case 17 -> x.arc(a, b, c);
            case 18 -> x.about(a, b);
            case 19 -> x.range(a);
            case 20 -> x.near(a, b);
            case 21 -> x.like(a);
            case 22 -> x.best(a);
            case 23 -> x.pieces(a);
            case 24 -> x.pack();
            case 25 -> x.unpack();
            default -> x.count(a);
        };
    }

    private static int answer(Oracle x, int call, int a, int b, int c) {
        return switch (call) {
            case 0 -> x.octet(a);
            case 1 -> x.list();
            case 2 -> x.put(a);
            case 3 -> x.cut();
            case 4 -> x.raise(a);
            case 5 -> x.append(a);
            case 6 -> x.finish();
            case 7 -> x.join(a, b, c);
            case 8 -> x.undo();
            case 9 -> x.keep(a);
            case 10 -> x.same(a);
            case 11 -> x.number();
            case 12 -> x.rank();
            case 13 -> x.word(a, b);
            case 14 -> x.value(a);
            case 15 -> x.first(a);
            case 16 -> x.state();
            case 17 -> x.arc(a, b, c);
            case 18 -> x.about(a, b);
            case 19 -> x.range(a);
            case 20 -> x.near(a, b);
            case 21 -> x.like(a);
            case 22 -> x.best(a);
            case 23 -> x.pieces(a);
            case 24 -> x.pack();
            case 25 -> x.unpack();
            default -> x.count(a);
        };
    }
}
