import java.util.Random;

/** Runs of random calls, each answered by the class and by the oracle. */
public final class OracleTest {
    private static final Exam exam = new Exam();

    private final NumberWords x = new NumberWords();
    private final Oracle o = new Oracle();
    private final Random random;
    private final String letters;
    private final int greatest;
    private final int longest;
    private final String name;
    private int calls;

    private OracleTest(int seed) {
        random = new Random(seed);
        letters = new String[] {"ab", "abc", "abcdefgh", "abcdefghijklmnopqrstuvwxyz"}[random.nextInt(4)];
        greatest = new int[] {0, 2, 300, 999999}[random.nextInt(4)];
        longest = new int[] {2, 4, 10}[random.nextInt(3)];
        name = "seed " + seed + ", call ";
    }

    private void due(String call, int got, int want) {
        exam.due(name + calls + ": " + call, got, want);
        calls++;
    }

    private void say(String text) {
        int[] bytes = new int[text.length()];
        for (int i = 0; i < bytes.length; i++) {
            bytes[i] = text.charAt(i);
        }
        say(bytes);
    }

    private void say(int[] bytes) {
        if (x.count(10) > 0) {
            due("end(0)", x.end(0), o.end(0));
        }
        for (int from = 0; from < bytes.length; from += 20) {
            int[] five = new int[5];
            for (int i = 0; i < 5; i++) {
                five[i] = Say.four(bytes, from + 4 * i);
            }
            due("feed", x.feed(five[0], five[1], five[2], five[3], five[4]), o.feed(five));
        }
        if (bytes.length % 20 != 0) {
            due("end", x.end(bytes.length), o.end(bytes.length));
        }
    }

    private boolean chance(int oneOf) {
        return random.nextInt(oneOf) == 0;
    }

    private String word(int most) {
        StringBuilder word = new StringBuilder();
        int length = chance(40) ? random.nextInt(13) : 1 + random.nextInt(most);
        for (int i = 0; i < length; i++) {
            word.append(letters.charAt(random.nextInt(letters.length())));
        }
        return word.toString();
    }

    /** A word that is there, mostly, or what is made of one. */
    private String likelyWord() {
        int rank = x.count(0) > 0 ? random.nextInt(x.count(0)) : NumberWords.NONE;
        if (rank == NumberWords.NONE || chance(4)) {
            return chance(30) ? "a-b" : word(longest);
        }
        StringBuilder word = new StringBuilder();
        for (int i = 0; i < x.word(rank, NumberWords.NONE); i++) {
            word.append((char) ('a' - 1 + x.word(rank, i)));
        }
        if (chance(6)) {
            word.setLength(random.nextInt(word.length()));
        } else if (chance(6)) {
            word.append(word(2));
        }
        return word.toString();
    }

    private int number() {
        if (chance(30)) {
            return new int[] {-1, 1000000, Integer.MIN_VALUE, Integer.MAX_VALUE, -2, 999999, 0}[random.nextInt(7)];
        }
        return random.nextInt(greatest + 1);
    }

    private int small() {
        return chance(25) ? new int[] {Integer.MIN_VALUE, Integer.MAX_VALUE, -2, 1000}[random.nextInt(4)]
                : random.nextInt(6) - 1;
    }

    private String blanks() {
        return chance(6) ? " ".repeat(random.nextInt(3)) : "";
    }

    private String listText() {
        StringBuilder text = new StringBuilder();
        int items = 1 + random.nextInt(chance(3) ? 90 : 12);
        for (int i = 0; i < items && text.length() < 370; i++) {
            text.append(i == 0 ? "" : ",").append(blanks()).append(word(longest)).append(blanks());
            if (chance(2)) {
                text.append("=").append(blanks()).append(chance(9) ? "00" : "").append(random.nextInt(greatest + 1))
                        .append(blanks());
            }
        }
        if (chance(4)) {
            String signs = "a1=, -z0\0\u00ff`{/:";
            int at = random.nextInt(text.length());
            text.setCharAt(at, signs.charAt(random.nextInt(signs.length())));
        }
        if (chance(20)) {
            text.setLength(random.nextInt(text.length() + 1));
        }
        return text.toString();
    }

    /** A list whose words are told once each, so that it is one. */
    private String goodList() {
        java.util.TreeSet<String> told = new java.util.TreeSet<>();
        StringBuilder text = new StringBuilder();
        for (int i = 0; i < 120 && text.length() < 370; i++) {
            String word = word(longest);
            if (!word.isEmpty() && word.length() <= 10 && told.add(word)) {
                text.append(text.length() == 0 ? "" : ",").append(word);
                if (chance(2)) {
                    text.append("=").append(random.nextInt(greatest + 1));
                }
            }
        }
        return text.toString();
    }

    private void step() {
        switch (random.nextInt(33)) {
            case 0, 1 -> {
                say(chance(2) ? listText() : goodList());
                due("list", x.list(), o.list());
            }
            case 2, 3 -> {
                say(likelyWord());
                int number = number();
                due("put " + number, x.put(number), o.put(number));
            }
            case 4 -> {
                say(likelyWord());
                due("cut", x.cut(), o.cut());
            }
            case 5 -> {
                int d = chance(3) ? number() : random.nextInt(5) - 2;
                due("raise " + d, x.raise(d), o.raise(d));
            }
            case 6, 7, 8 -> {
                String word = word(longest);
                int number = number();
                say(word);
                due("append " + number, x.append(number), o.append(number));
            }
            case 9 -> appendMany();
            case 10 -> {
                if (chance(3)) {
                    due("finish", x.finish(), o.finish());
                }
            }
            case 11 -> {
                int shelf = small();
                int how = small();
                int rule = chance(2) ? 3 : small();
                due("join", x.join(shelf, how, rule), o.join(shelf, how, rule));
            }
            case 12 -> due("undo", x.undo(), o.undo());
            case 13 -> {
                int shelf = small();
                due("keep", x.keep(shelf), o.keep(shelf));
            }
            case 14 -> {
                int shelf = small();
                due("same", x.same(shelf), o.same(shelf));
            }
            case 15 -> {
                say(likelyWord());
                due("number", x.number(), o.number());
            }
            case 16 -> {
                say(chance(3) ? likelyWord() + likelyWord() + word(longest) : likelyWord());
                due("rank", x.rank(), o.rank());
            }
            case 17 -> {
                int rank = random.nextInt(x.count(0) + 2) - 1;
                int i = chance(2) ? random.nextInt(12) - 2 : small();
                due("word " + rank + " " + i, x.word(rank, i), o.word(rank, i));
                due("value " + rank, x.value(rank), o.value(rank));
            }
            case 18 -> {
                int number = x.count(0) > 0 && chance(2) ? x.value(random.nextInt(x.count(0))) : number();
                due("first " + number, x.first(number), o.first(number));
            }
            case 19 -> {
                say(likelyWord());
                due("state", x.state(), o.state());
            }
            case 20 -> wholeState();
            case 21, 22 -> {
                String low = chance(4) ? "" : likelyWord();
                String high = chance(3) ? "" : likelyWord();
                say(chance(30) ? low : low + "-" + high);
                int what = small();
                due("range " + what, x.range(what), o.range(what));
            }
            case 23 -> {
                String text = likelyWord();
                int d = small();
                say(text);
                int k = small();
                due("near " + d + " " + k, x.near(d, k), o.near(d, k));
            }
            case 24, 25 -> {
                say(pattern());
                int k = small();
                due("like " + k, x.like(k), o.like(k));
            }
            case 26 -> {
                String text = likelyWord();
                say(text.substring(0, random.nextInt(text.length() + 1)));
                int k = small();
                due("best " + k, x.best(k), o.best(k));
            }
            case 27, 28 -> {
                StringBuilder text = new StringBuilder();
                int parts = random.nextInt(12);
                for (int i = 0; i < parts; i++) {
                    text.append(likelyWord());
                }
                say(text.toString());
                int what = small();
                due("pieces " + what, x.pieces(what), o.pieces(what));
            }
            case 29 -> due("pack", x.pack(), o.pack());
            case 30 -> {
                due("pack", x.pack(), o.pack());
                due("unpack", x.unpack(), o.unpack());
            }
            case 31 -> unpackWrong();
            default -> {
                int what = random.nextInt(14) - 1;
                due("count " + what, x.count(what), o.count(what));
            }
        }
    }

    private void appendMany() {
        java.util.TreeSet<String> words = new java.util.TreeSet<>();
        int many = random.nextInt(20);
        for (int i = 0; i < many; i++) {
            words.add(word(longest));
        }
        for (String word : words) {
            int number = number();
            say(word);
            due("append " + number, x.append(number), o.append(number));
            if (chance(4)) {
                due("count 7", x.count(7), o.count(7));
                due("count 6", x.count(6), o.count(6));
            }
        }
    }

    /** Rising words till the builder has all that it may have. */
    private void fillBuilder() {
        java.util.TreeSet<String> words = new java.util.TreeSet<>();
        while (words.size() < 100) {
            StringBuilder word = new StringBuilder();
            for (int length = 1 + random.nextInt(longest); length > 0; length--) {
                word.append((char) ('a' + random.nextInt(26)));
            }
            words.add(word.toString());
        }
        for (String word : words) {
            int number = random.nextInt(greatest + 1);
            say(word);
            due("append " + number, x.append(number), o.append(number));
        }
    }

    private void wholeState() {
        int s = random.nextInt(x.count(1) + 2) - 1;
        int arcs = x.arc(s, -1, 0);
        due("arc " + s, arcs, o.arc(s, -1, 0));
        for (int k = -2; k <= Math.min(arcs, 3); k++) {
            int what = random.nextInt(5) - 1;
            due("arc " + s + " " + k + " " + what, x.arc(s, k, what), o.arc(s, k, what));
        }
        for (int what = -1; what < 9; what++) {
            due("about " + s + " " + what, x.about(s, what), o.about(s, what));
        }
    }

    private String pattern() {
        StringBuilder pattern = new StringBuilder(likelyWord());
        for (int i = 0; i < 3 && pattern.length() > 0; i++) {
            int at = random.nextInt(pattern.length());
            if (chance(2)) {
                pattern.setCharAt(at, chance(2) ? '?' : '*');
            } else if (chance(2)) {
                pattern.insert(at, chance(3) ? '?' : '*');
            } else if (chance(2)) {
                pattern.deleteCharAt(at);
            }
        }
        return pattern.toString();
    }

    private void unpackWrong() {
        int[] bytes;
        if (chance(3)) {
            bytes = new int[random.nextInt(12)];
            for (int i = 0; i < bytes.length; i++) {
                bytes[i] = chance(5) ? random.nextInt(256) : random.nextInt(5);
            }
        } else {
            due("pack", x.pack(), o.pack());
            bytes = Say.tape(x);
            int changes = 1 + random.nextInt(3);
            for (int i = 0; i < changes && bytes.length > 0; i++) {
                int at = random.nextInt(bytes.length);
                bytes[at] = chance(3) ? random.nextInt(256) : Math.max(0, bytes[at] + random.nextInt(3) - 1) & 255;
            }
            if (chance(4)) {
                bytes = java.util.Arrays.copyOf(bytes, Math.min(400, random.nextInt(bytes.length + 3)));
            }
        }
        say(bytes);
        due("unpack", x.unpack(), o.unpack());
    }

    private void whole() {
        for (int what = 0; what < 12; what++) {
            due("count " + what, x.count(what), o.count(what));
        }
        for (int s = 0; s < x.count(1) && s < 30; s++) {
            for (int what = 0; what < 8; what++) {
                due("about " + s + " " + what, x.about(s, what), o.about(s, what));
            }
        }
    }

    public static void main(String[] args) {
        int runs = args.length > 0 ? Integer.parseInt(args[0]) : 400;
        for (int seed = 1; seed <= runs && !exam.failed(); seed++) {
            OracleTest run = new OracleTest(seed);
            boolean isFull = seed % 8 == 5;
            if (isFull) {
                run.fillBuilder();
            }
            // what the class is asked beside (count, word, value) counts too
            while (run.calls < (isFull ? 420 : 220) && !exam.failed()) {
                run.step();
            }
            if (seed % 4 == 0) {
                run.whole();
            }
        }
        exam.close("OracleTest");
    }
}
