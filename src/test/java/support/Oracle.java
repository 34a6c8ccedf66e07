import java.util.ArrayDeque;
import java.util.ArrayList;
import java.util.Arrays;
import java.util.Comparator;
import java.util.HashMap;
import java.util.HashSet;
import java.util.LinkedHashMap;
import java.util.List;
import java.util.Map;
import java.util.Set;
import java.util.TreeMap;
import java.util.TreeSet;
import java.util.regex.Pattern;

/** What the document says, as plainly and slowly as it can be told, with the Java library. */
final class Oracle {
    private static final int NONE = -1;

    private record Past(TreeMap<String, Integer> words, TreeMap<String, Integer> builder) {
    }

    private record Arc(String letter, int output, String target) {
    }

    private int[] tape = new int[0];
    private TreeMap<String, Integer> words = new TreeMap<>();
    private TreeMap<String, Integer> builder = new TreeMap<>();
    private final List<TreeMap<String, Integer>> shelves = new ArrayList<>(Arrays.asList(null, null, null));
    private final ArrayDeque<Past> acts = new ArrayDeque<>();

    // ---- the tape

    int feed(int... five) {
        if (tape.length + 20 > 400) {
            return NONE;
        }
        int from = tape.length;
        tape = Arrays.copyOf(tape, from + 20);
        for (int i = 0; i < 20; i++) {
            tape[from + i] = five[i / 4] >>> 24 - 8 * (i % 4) & 255;
        }
        return tape.length;
    }

    int end(int n) {
        if (n < 0 || n > tape.length) {
            return NONE;
        }
        tape = Arrays.copyOf(tape, n);
        return n;
    }

    int octet(int k) {
        return k < 0 || k >= tape.length ? NONE : tape[k];
    }

    private String take() {
        StringBuilder text = new StringBuilder();
        for (int octet : tape) {
            text.append((char) octet);
        }
        tape = new int[0];
        return text.toString();
    }

    private static boolean isLetters(String text, int least, int most) {
        return text.matches("[a-z]*") && text.length() >= least && text.length() <= most;
    }

    private static boolean isNumber(int number) {
        return number >= 0 && number <= 999999;
    }

    // ---- acts

    private void act(TreeMap<String, Integer> then) {
        acts.addLast(new Past(new TreeMap<>(words), new TreeMap<>(builder)));
        if (acts.size() > 12) {
            acts.removeFirst();
        }
        words = then;
    }

    int list() {
        String text = take();
        TreeMap<String, Integer> then = new TreeMap<>(words);
        int fault = readList(text, then);
        if (fault != 0) {
            return -2 - fault;
        }
        act(then);
        return words.size();
    }

    /** Tokens by what may come: w a word, s = or a comma or the end, n a number, c a comma or the end. */
    private static int readList(String text, TreeMap<String, Integer> into) {
        Set<String> told = new HashSet<>();
        char due = 'w';
        String word = "";
        for (int i = 0; i <= text.length(); i++) {
            char sign = i < text.length() ? text.charAt(i) : 0;
            boolean atEnd = i == text.length();
            if (!atEnd && sign == ' ') {
                continue;
            }
            if (atEnd && (due == 's' || due == 'c')) {
                return 0;
            }
            if (due == 'w' && !atEnd && sign >= 'a' && sign <= 'z') {
                word = text.substring(i).replaceFirst("(?s)[^a-z].*", "");
                if (word.length() > 10) {
                    return 8 * i + 2;
                }
                if (!told.add(word)) {
                    return 8 * i + 3;
                }
                if (!into.containsKey(word) && into.size() == 100) {
                    return 8 * i + 4;
                }
                into.put(word, 0);
                i += word.length() - 1;
                due = 's';
            } else if (due == 's' && !atEnd && sign == '=') {
                due = 'n';
            } else if (due == 'n' && !atEnd && sign >= '0' && sign <= '9') {
                String digits = text.substring(i).replaceFirst("(?s)[^0-9].*", "");
                if (new java.math.BigInteger(digits).compareTo(java.math.BigInteger.valueOf(999999)) > 0) {
                    return 8 * i + 2;
                }
                into.put(word, Integer.parseInt(digits));
                i += digits.length() - 1;
                due = 'c';
            } else if ((due == 's' || due == 'c') && !atEnd && sign == ',') {
                due = 'w';
            } else {
                return 8 * i + 1;
            }
        }
        return 0;
    }

    int put(int number) {
        String word = take();
        if (!isLetters(word, 1, 10) || !isNumber(number)) {
            return NONE;
        }
        if (words.containsKey(word) && words.get(word) == number) {
            return -2;
        }
        TreeMap<String, Integer> then = new TreeMap<>(words);
        then.put(word, number);
        if (then.size() > 100) {
            return NONE;
        }
        act(then);
        return count(1);
    }

    int cut() {
        String word = take();
        if (!words.containsKey(word)) {
            return NONE;
        }
        TreeMap<String, Integer> then = new TreeMap<>(words);
        then.remove(word);
        act(then);
        return count(1);
    }

    int raise(int d) {
        if (words.isEmpty() || d == 0) {
            return NONE;
        }
        TreeMap<String, Integer> then = new TreeMap<>();
        for (Map.Entry<String, Integer> word : words.entrySet()) {
            long raised = (long) word.getValue() + d;
            if (raised < 0 || raised > 999999) {
                return NONE;
            }
            then.put(word.getKey(), (int) raised);
        }
        act(then);
        return count(3);
    }

    int append(int number) {
        String word = take();
        if (!isLetters(word, 1, 10) || !isNumber(number) || builder.size() == 100) {
            return NONE;
        }
        if (!builder.isEmpty() && builder.lastKey().compareTo(word) >= 0) {
            return -2;
        }
        builder.put(word, number);
        return count(6) + count(7);
    }

    int finish() {
        if (builder.isEmpty()) {
            return NONE;
        }
        act(new TreeMap<>(builder));
        builder = new TreeMap<>();
        return count(1);
    }

    int join(int shelf, int how, int rule) {
        if (shelf < 0 || shelf > 2 || how < 0 || how > 2 || rule < 0 || rule > 4 || how == 2 && rule != 3
                || shelves.get(shelf) == null) {
            return NONE;
        }
        TreeMap<String, Integer> there = shelves.get(shelf);
        TreeMap<String, Integer> then = new TreeMap<>();
        Set<String> all = new TreeSet<>(words.keySet());
        all.addAll(there.keySet());
        for (String word : all) {
            Integer a = words.get(word);
            Integer b = there.get(word);
            if (a != null && b != null && how != 2) {
                int[] byRule = {Math.min(999999, a + b), Math.min(a, b), Math.max(a, b), a, b};
                then.put(word, byRule[rule]);
            } else if (b == null && how != 1) {
                then.put(word, a);
            } else if (a == null && how == 0) {
                then.put(word, b);
            }
        }
        if (then.size() > 100) {
            return -2;
        }
        act(then);
        return words.size();
    }

    int undo() {
        if (acts.isEmpty()) {
            return NONE;
        }
        Past past = acts.removeLast();
        words = past.words();
        builder = past.builder();
        return acts.size();
    }

    int keep(int shelf) {
        if (shelf < 0 || shelf > 2) {
            return NONE;
        }
        shelves.set(shelf, new TreeMap<>(words));
        return words.size();
    }

    int same(int shelf) {
        if (shelf < 0 || shelf > 2) {
            return NONE;
        }
        return shelves.get(shelf) == null ? -2 : shelves.get(shelf).equals(words) ? 1 : 0;
    }

    // ---- words

    int number() {
        String word = take();
        return !isLetters(word, 1, 10) ? NONE : words.getOrDefault(word, -2);
    }

    int rank() {
        String text = take();
        return isLetters(text, 0, 60) ? words.headMap(text).size() : NONE;
    }

    private String wordOf(int rank) {
        return rank < 0 || rank >= words.size() ? null : new ArrayList<>(words.keySet()).get(rank);
    }

    private int rankOf(String word) {
        return words.headMap(word).size();
    }

    int word(int rank, int i) {
        String word = wordOf(rank);
        if (word == null || i < NONE || i >= word.length()) {
            return NONE;
        }
        return i == NONE ? word.length() : word.charAt(i) - 'a' + 1;
    }

    int value(int rank) {
        return wordOf(rank) == null ? NONE : words.get(wordOf(rank));
    }

    int first(int number) {
        if (!isNumber(number)) {
            return NONE;
        }
        for (String word : words.keySet()) {
            if (words.get(word) == number) {
                return rankOf(word);
            }
        }
        return -2;
    }

    // ---- the machine

    private static TreeSet<String> beginnings(TreeMap<String, Integer> book) {
        TreeSet<String> all = new TreeSet<>();
        all.add("");
        for (String word : book.keySet()) {
            for (int n = 1; n <= word.length(); n++) {
                all.add(word.substring(0, n));
            }
        }
        return all;
    }

    private static int least(TreeMap<String, Integer> book, String beginning) {
        return book.entrySet().stream().filter(word -> word.getKey().startsWith(beginning))
                .mapToInt(Map.Entry::getValue).min().orElse(0);
    }

    private static TreeMap<String, Integer> rest(TreeMap<String, Integer> book, String beginning) {
        TreeMap<String, Integer> rest = new TreeMap<>();
        for (String word : book.keySet()) {
            if (word.startsWith(beginning)) {
                rest.put(word.substring(beginning.length()), book.get(word) - least(book, beginning));
            }
        }
        return rest;
    }

    private TreeMap<String, Integer> readFor;
    private final Map<String, Integer> stateOf = new LinkedHashMap<>();
    private final List<String> firstOf = new ArrayList<>();

    /** The state of each beginning; beginnings in their order are come to as all words are gone through. */
    private void read() {
        if (words.equals(readFor)) {
            return;
        }
        readFor = new TreeMap<>(words);
        stateOf.clear();
        firstOf.clear();
        Map<TreeMap<String, Integer>, Integer> byRest = new HashMap<>();
        for (String beginning : beginnings(words)) {
            TreeMap<String, Integer> rest = rest(words, beginning);
            if (!byRest.containsKey(rest)) {
                byRest.put(rest, byRest.size());
                firstOf.add(beginning);
            }
            stateOf.put(beginning, byRest.get(rest));
        }
    }

    private List<Arc> arcs(int state) {
        List<Arc> arcs = new ArrayList<>();
        String from = firstOf.get(state);
        for (char letter = 'a'; letter <= 'z'; letter++) {
            if (stateOf.containsKey(from + letter)) {
                arcs.add(new Arc("" + letter, least(words, from + letter) - least(words, from), from + letter));
            }
        }
        return arcs;
    }

    int state() {
        String text = take();
        read();
        return !isLetters(text, 0, 400) ? NONE : stateOf.getOrDefault(text, -2);
    }

    int arc(int state, int k, int what) {
        read();
        if (state < 0 || state >= firstOf.size() || k < NONE || k >= arcs(state).size()) {
            return NONE;
        }
        if (k == NONE) {
            return arcs(state).size();
        }
        Arc arc = arcs(state).get(k);
        return what == 0 ? arc.letter().charAt(0) - 'a' + 1 : what == 1 ? arc.output()
                : what == 2 ? stateOf.get(arc.target()) : NONE;
    }

    int about(int state, int what) {
        read();
        if (state < 0 || state >= firstOf.size() || what < 0 || what > 7) {
            return NONE;
        }
        TreeMap<String, Integer> rest = rest(words, firstOf.get(state));
        List<String> mine = stateOf.keySet().stream().filter(b -> stateOf.get(b) == state).toList();
        return switch (what) {
            case 0 -> rest.getOrDefault("", -2);
            case 1 -> rest.size();
            case 2 -> rest.keySet().stream().mapToInt(String::length).max().orElse(-2);
            case 3 -> rest.keySet().stream().mapToInt(String::length).min().orElse(-2);
            case 4 -> {
                int come = 0;
                for (int from = 0; from < firstOf.size(); from++) {
                    come += (int) arcs(from).stream().filter(arc -> stateOf.get(arc.target()) == state).count();
                }
                yield come;
            }
            case 5 -> mine.stream().mapToInt(String::length).min().orElse(NONE);
            case 6 -> rest.values().stream().mapToInt(n -> n).max().orElse(-2);
            default -> mine.size();
        };
    }

    // ---- asked for by what they are like

    int range(int what) {
        String text = take();
        if (!text.matches("[a-z]{0,10}-[a-z]{0,10}") || what < 0 || what > 4) {
            return NONE;
        }
        String low = text.substring(0, text.indexOf('-'));
        String high = text.substring(text.indexOf('-') + 1);
        List<String> within = words.keySet().stream()
                .filter(w -> w.compareTo(low) >= 0 && (high.isEmpty() || w.compareTo(high) <= 0)).toList();
        return switch (what) {
            case 0 -> within.size();
            case 1 -> within.stream().mapToInt(words::get).sum();
            case 2 -> within.stream().mapToInt(words::get).min().orElse(-2);
            case 3 -> within.stream().mapToInt(words::get).max().orElse(-2);
            default -> within.isEmpty() ? -2 : rankOf(within.get(0));
        };
    }

    private int pick(List<String> from, int k) {
        return k == NONE ? from.size() : k < from.size() ? rankOf(from.get(k)) : -2;
    }

    private static int far(String a, String b) {
        int[][] far = new int[a.length() + 1][b.length() + 1];
        for (int i = 0; i <= a.length(); i++) {
            for (int j = 0; j <= b.length(); j++) {
                if (i == 0 || j == 0) {
                    far[i][j] = i + j;
                } else {
                    int changed = far[i - 1][j - 1] + (a.charAt(i - 1) == b.charAt(j - 1) ? 0 : 1);
                    far[i][j] = Math.min(changed, 1 + Math.min(far[i - 1][j], far[i][j - 1]));
                }
            }
        }
        return far[a.length()][b.length()];
    }

    int near(int d, int k) {
        String text = take();
        if (!isLetters(text, 0, 10) || d < 0 || d > 3 || k < NONE) {
            return NONE;
        }
        return pick(words.keySet().stream().filter(w -> far(text, w) <= d).toList(), k);
    }

    int like(int k) {
        String text = take();
        if (!text.matches("[a-z?*]{1,12}") || k < NONE) {
            return NONE;
        }
        Pattern pattern = Pattern.compile(text.replaceAll("[*]+", "*").replace("*", ".*").replace("?", "."));
        return pick(words.keySet().stream().filter(w -> pattern.matcher(w).matches()).toList(), k);
    }

    int best(int k) {
        String text = take();
        if (!isLetters(text, 0, 10) || k < 0) {
            return NONE;
        }
        return pick(words.keySet().stream().filter(w -> w.startsWith(text))
                .sorted(Comparator.comparing((String w) -> -words.get(w)).thenComparing(w -> w)).toList(), k);
    }

    int pieces(int what) {
        String text = take();
        if (!isLetters(text, 1, 60) || what < 0 || what > 4) {
            return NONE;
        }
        int at = 0;
        int many = 0;
        for (int length = 10; length > 0; length--) {
            if (at + length <= text.length() && words.containsKey(text.substring(at, at + length))) {
                at += length;
                many++;
                length = 11;
            }
        }
        if (what < 2) {
            return what == 0 ? many : at;
        }
        // from the right: the fewest, the best and the ways of what is left
        int n = text.length();
        int[] fewest = new int[n + 1];
        int[] best = new int[n + 1];
        long[] ways = new long[n + 1];
        ways[n] = 1;
        for (int from = n - 1; from >= 0; from--) {
            fewest[from] = -2;
            best[from] = -2;
            for (int to = from + 1; to <= n; to++) {
                Integer number = words.get(text.substring(from, to));
                if (number != null && fewest[to] != -2) {
                    fewest[from] = fewest[from] == -2 ? fewest[to] + 1 : Math.min(fewest[from], fewest[to] + 1);
                    best[from] = Math.max(best[from], best[to] + number);
                    ways[from] = (ways[from] + ways[to]) % 1000003;
                }
            }
        }
        return what == 2 ? fewest[0] : what == 3 ? best[0] : (int) ways[0];
    }

    // ---- packed

    private static void addNumber(List<Integer> row, int number) {
        int left = number;
        do {
            row.add(left % 128 + (left >= 128 ? 128 : 0));
            left /= 128;
        } while (left > 0);
    }

    private int[] packed() {
        read();
        List<Integer> row = new ArrayList<>();
        addNumber(row, firstOf.size());
        addNumber(row, least(words, ""));
        for (int s = 0; s < firstOf.size(); s++) {
            int ends = about(s, 0);
            addNumber(row, 2 * arcs(s).size() + (ends == -2 ? 0 : 1));
            if (ends != -2) {
                addNumber(row, ends);
            }
            for (Arc arc : arcs(s)) {
                addNumber(row, arc.letter().charAt(0) - 'a' + 1);
                addNumber(row, arc.output());
                addNumber(row, stateOf.get(arc.target()));
            }
        }
        return row.stream().mapToInt(n -> n).toArray();
    }

    int pack() {
        int[] bytes = packed();
        if (bytes.length > 400) {
            return -2;
        }
        tape = bytes;
        return tape.length;
    }

    private int at;
    private int wrong;

    private int next(int[] bytes, int low, int high) {
        if (wrong != 0) {
            return 0;
        }
        int begin = at;
        int value = 0;
        int factor = 1;
        for (int i = 0; i < 4; i++) {
            if (at == bytes.length) {
                wrong = 8 * at + 1;
                return 0;
            }
            int octet = bytes[at++];
            value += octet % 128 * factor;
            factor *= 128;
            if (octet < 128) {
                if (value < low || value > high) {
                    wrong = 8 * begin + 2;
                    return 0;
                }
                return value;
            }
        }
        wrong = 8 * begin + 2;
        return 0;
    }

    int unpack() {
        int[] bytes = tape;
        take();
        at = 0;
        wrong = 0;
        int states = next(bytes, 1, 1001);
        int start = next(bytes, 0, 999999);
        int[] ends = new int[states];
        List<List<int[]>> arcs = new ArrayList<>();
        for (int s = 0; s < states && wrong == 0; s++) {
            int head = next(bytes, 0, 53);
            ends[s] = head % 2 == 1 ? next(bytes, 0, 999999) : NONE;
            List<int[]> mine = new ArrayList<>();
            int letter = 0;
            for (int i = 0; i < head / 2 && wrong == 0; i++) {
                letter = next(bytes, letter + 1, 26);
                mine.add(new int[] {letter, next(bytes, 0, 999999), next(bytes, 0, states - 1)});
            }
            arcs.add(mine);
        }
        if (wrong == 0 && at < bytes.length) {
            wrong = 8 * at + 3;
        }
        if (wrong != 0) {
            return -2 - wrong;
        }
        TreeMap<String, Integer> told = new TreeMap<>();
        boolean good = tell(told, ends, arcs, 0, "", start, new int[1]);
        TreeMap<String, Integer> before = words;
        words = told;
        good = good && told.size() <= 100 && Arrays.equals(packed(), bytes);
        words = before;
        if (!good) {
            return -2 - (8 * bytes.length + 4);
        }
        act(told);
        return words.size();
    }

    private static boolean tell(TreeMap<String, Integer> told, int[] ends, List<List<int[]>> arcs, int s, String word,
            int sum, int[] steps) {
        if (word.length() > 10 || steps[0]++ > 20000) {
            return false;
        }
        if (ends[s] != NONE) {
            if (word.isEmpty() || sum + ends[s] > 999999) {
                return false;
            }
            told.put(word, sum + ends[s]);
        }
        for (int[] arc : arcs.get(s)) {
            if (!tell(told, ends, arcs, arc[2], word + (char) ('a' + arc[0] - 1), sum + arc[1], steps)) {
                return false;
            }
        }
        return true;
    }

    // ---- counts

    int count(int what) {
        read();
        return switch (what) {
            case 0 -> words.size();
            case 1 -> firstOf.size();
            case 2 -> {
                int all = 0;
                for (int s = 0; s < firstOf.size(); s++) {
                    all += arcs(s).size();
                }
                yield all;
            }
            case 3 -> least(words, "");
            case 4 -> words.values().stream().mapToInt(n -> n).sum();
            case 5 -> builder.size();
            case 6 -> builder.isEmpty() ? 0 : builder.lastKey().length() + 1;
            case 7 -> {
                Set<TreeMap<String, Integer>> rests = new HashSet<>();
                for (String beginning : beginnings(builder)) {
                    if (!builder.isEmpty() && !builder.lastKey().startsWith(beginning)) {
                        rests.add(rest(builder, beginning));
                    }
                }
                yield rests.size();
            }
            case 8 -> acts.size();
            case 9 -> (shelves.get(0) == null ? 0 : 1) + (shelves.get(1) == null ? 0 : 2)
                    + (shelves.get(2) == null ? 0 : 4);
            case 10 -> tape.length;
            case 11 -> beginnings(words).size();
            default -> NONE;
        };
    }
}
