import java.util.Arrays;

/** A machine of words with numbers; ../shared/DOC.md tells its terms and what each public method promises. */
public final class NumberWords {

    public static final int NONE = -1;

    /** The document's other no: what is asked for is not there, or would not do. */
    private static final int REFUSED = -2;
    private static final int MOST_LETTERS = 10;
    private static final int MOST_WORDS = 100;
    private static final int MOST_NUMBER = 999999;
    private static final int MOST_NODES = MOST_WORDS * MOST_LETTERS + 1;
    private static final int MOST_BYTES = 400;
    private static final int MOST_NUMBER_BYTES = 4;
    private static final int MOST_TEXT = 60;
    private static final int MOST_SIGNS = 12;
    private static final int MOST_ACTS = 12;
    private static final int MOST_FAR = 3;
    private static final int SHELVES = 3;
    private static final int FED_BYTES = 20;
    private static final int WAYS_RING = 1000003;
    private static final int LETTER_BITS = 5;
    private static final int BUCKETS = 1024;
    private static final int MERGED = 0;
    private static final int MET = 1;
    private static final int LESS = 2;
    private static final int RULES = 5;
    private static final int RULE_HERE = 3;
    private static final long NO_LETTERS = -1L;
    private static final long BEHIND_ALL_WORDS = 1L << LETTER_BITS * MOST_LETTERS;

    private final Tape tape = new Tape();
    private final Book words = new Book();
    private final Book builder = new Book();
    private final Book draft = new Book();
    private final Book[] shelves = new Book[SHELVES];
    private final History history = new History();
    private final ListReader lists = new ListReader(tape);
    private final Machine machine = new Machine();
    private final Machine builderMachine = new Machine();
    private final Packing packing = new Packing();
    private final Unpacking unpacking = new Unpacking(tape);
    private final Cutting cutting = new Cutting(tape, words);
    private final Likeness likeness = new Likeness(tape);
    private int kept;
    private boolean machineIsOld = true;
    private boolean builderIsOld = true;

    public NumberWords() {
        for (int shelf = 0; shelf < SHELVES; shelf++) {
            shelves[shelf] = new Book();
        }
    }

    // ---- the tape

    public int feed(int a, int b, int c, int d, int e) {
        if (tape.size > MOST_BYTES - FED_BYTES) {
            return NONE;
        }
        tape.addFour(a);
        tape.addFour(b);
        tape.addFour(c);
        tape.addFour(d);
        tape.addFour(e);
        return tape.size;
    }

    public int end(int n) {
        if (n < 0 || n > tape.size) {
            return NONE;
        }
        tape.size = n;
        return n;
    }

    public int octet(int k) {
        return tape.byteAt(k);
    }

    /** The tape as letters, NO_LETTERS if it is anything else or more than a word may have; it is empty then. */
    private long takeLetters() {
        long letters = tape.isLetters(MOST_LETTERS) ? tape.spelled(0, tape.size) : NO_LETTERS;
        tape.size = 0;
        return letters;
    }

    private static boolean isWord(long letters) {
        return letters > 0;
    }

    private static boolean isNumber(int number) {
        return number >= 0 && number <= MOST_NUMBER;
    }

    // ---- acts

    public int list() {
        draft.takeFrom(words);
        int fault = lists.read(draft);
        tape.size = 0;
        if (fault != 0) {
            return -2 - fault;
        }
        becomeDraft();
        return words.size;
    }

    public int put(int number) {
        long letters = takeLetters();
        if (!isWord(letters) || !isNumber(number)) {
            return NONE;
        }
        int place = words.placeOf(letters);
        if (place != NONE && words.numbers[place] == number) {
            return REFUSED;
        }
        if (place == NONE && words.size >= MOST_WORDS) {
            return NONE;
        }
        draft.takeFrom(words);
        draft.enter(letters, number);
        becomeDraft();
        return freshMachine().states;
    }

    public int cut() {
        int place = words.placeOf(takeLetters());
        if (place == NONE) {
            return NONE;
        }
        draft.takeFrom(words);
        draft.removeAt(place);
        becomeDraft();
        return freshMachine().states;
    }

    public int raise(int d) {
        if (words.size == 0 || d == 0) {
            return NONE;
        }
        draft.clear();
        for (int i = 0; i < words.size; i++) {
            // a sum that leaves the ints comes out below 0, so it is no NUMBER either
            int raised = words.numbers[i] + d;
            if (!isNumber(raised)) {
                return NONE;
            }
            draft.addLast(words.words[i], raised);
        }
        becomeDraft();
        return words.leastNumber();
    }

    public int append(int number) {
        long letters = takeLetters();
        if (!isWord(letters) || !isNumber(number) || builder.size >= MOST_WORDS) {
            return NONE;
        }
        if (builder.size > 0 && letters <= builder.lastWord()) {
            return REFUSED;
        }
        builder.addLast(letters, number);
        builderIsOld = true;
        return builderStates();
    }

    public int finish() {
        if (builder.size == 0) {
            return NONE;
        }
        draft.takeFrom(builder);
        becomeDraft();
        builder.clear();
        builderIsOld = true;
        return freshMachine().states;
    }

    public int join(int shelf, int how, int rule) {
        if (how < MERGED || how > LESS || rule < 0 || rule >= RULES || !isKept(shelf)) {
            return NONE;
        }
        if (how == LESS && rule != RULE_HERE) {
            return NONE;
        }
        if (!joinInto(draft, shelves[shelf], how, rule)) {
            return REFUSED;
        }
        becomeDraft();
        return words.size;
    }

    public int undo() {
        if (history.size == 0) {
            return NONE;
        }
        history.takeBack(words, builder);
        machineIsOld = true;
        builderIsOld = true;
        return history.size;
    }

    /** An act: what was before can be had back, and the draft's words are the machine's. */
    private void becomeDraft() {
        history.save(words, builder);
        words.takeFrom(draft);
        machineIsOld = true;
    }

    /** The words here and there side by side in their order; false if there is no room for all of them. */
    private boolean joinInto(Book joined, Book there, int how, int rule) {
        joined.clear();
        int i = 0;
        int j = 0;
        while (i < words.size || j < there.size) {
            long here = i < words.size ? words.words[i] : BEHIND_ALL_WORDS;
            long other = j < there.size ? there.words[j] : BEHIND_ALL_WORDS;
            int number = joinedNumber(here <= other ? words.numbers[i] : NONE,
                    other <= here ? there.numbers[j] : NONE, how, rule);
            if (number != NONE && !joined.addLast(Math.min(here, other), number)) {
                return false;
            }
            i += here <= other ? 1 : 0;
            j += other <= here ? 1 : 0;
        }
        return true;
    }

    /** The number that a word gets which has the number a here and b there (NONE: it is not in); NONE if it goes. */
    private static int joinedNumber(int a, int b, int how, int rule) {
        if (a != NONE && b != NONE) {
            return how == LESS ? NONE : byRule(a, b, rule);
        }
        if (how == MET || how == LESS && a == NONE) {
            return NONE;
        }
        return a != NONE ? a : b;
    }

    private static int byRule(int a, int b, int rule) {
        switch (rule) {
            case 0: return Math.min(a + b, MOST_NUMBER);
            case 1: return Math.min(a, b);
            case 2: return Math.max(a, b);
            case RULE_HERE: return a;
            default: return b;
        }
    }

    // ---- shelves

    public int keep(int shelf) {
        if (!isShelf(shelf)) {
            return NONE;
        }
        shelves[shelf].takeFrom(words);
        kept |= 1 << shelf;
        return words.size;
    }

    public int same(int shelf) {
        if (!isShelf(shelf)) {
            return NONE;
        }
        if (!isKept(shelf)) {
            return REFUSED;
        }
        return words.isLike(shelves[shelf]) ? 1 : 0;
    }

    private static boolean isShelf(int shelf) {
        return shelf >= 0 && shelf < SHELVES;
    }

    private boolean isKept(int shelf) {
        return isShelf(shelf) && (kept >> shelf & 1) != 0;
    }

    // ---- words, ranks, numbers

    public int number() {
        long letters = takeLetters();
        if (!isWord(letters)) {
            return NONE;
        }
        int place = words.placeOf(letters);
        return place == NONE ? REFUSED : words.numbers[place];
    }

    public int rank() {
        int answer = NONE;
        if (tape.isLetters(MOST_TEXT)) {
            long head = tape.spelled(0, tape.size);
            answer = words.ahead(head);
            // a word of ten letters stands ahead of a longer text that begins with it
            if (tape.size > MOST_LETTERS && words.placeOf(head) != NONE) {
                answer++;
            }
        }
        tape.size = 0;
        return answer;
    }

    public int word(int rank, int i) {
        if (!words.has(rank) || i < NONE) {
            return NONE;
        }
        int letters = lettersIn(words.words[rank]);
        if (i == NONE) {
            return letters;
        }
        return i < letters ? letterOf(words.words[rank], i) : NONE;
    }

    public int value(int rank) {
        return words.has(rank) ? words.numbers[rank] : NONE;
    }

    public int first(int number) {
        if (!isNumber(number)) {
            return NONE;
        }
        for (int rank = 0; rank < words.size; rank++) {
            if (words.numbers[rank] == number) {
                return rank;
            }
        }
        return REFUSED;
    }

    // ---- states

    public int state() {
        int answer = NONE;
        if (tape.isLetters(MOST_BYTES)) {
            // more letters than a word has begin none
            int found = tape.size > MOST_LETTERS ? NONE : freshMachine().stateBehind(tape.spelled(0, tape.size));
            answer = found == NONE ? REFUSED : found;
        }
        tape.size = 0;
        return answer;
    }

    public int arc(int state, int k, int what) {
        if (!freshMachine().hasState(state)) {
            return NONE;
        }
        if (k == NONE) {
            return machine.arcsFrom(state);
        }
        if (k < 0 || k >= machine.arcsFrom(state)) {
            return NONE;
        }
        int node = machine.arcNode(state, k);
        switch (what) {
            case 0: return machine.letter[node];
            case 1: return machine.outputTo(node);
            case 2: return machine.stateOf[node];
            default: return NONE;
        }
    }

    public int about(int state, int what) {
        if (!freshMachine().hasState(state)) {
            return NONE;
        }
        int node = machine.nodeOf[state];
        switch (what) {
            case 0: return machine.endsWith(node);
            case 1: return machine.wordsBehind(node);
            case 2: return machine.longestBehind(node);
            case 3: return machine.shortestBehind(node);
            case 4: return machine.arcsTo(state);
            case 5: return machine.shortestBeginning(state);
            case 6: return machine.greatestBehind(node);
            case 7: return machine.beginningsOf(state);
            default: return NONE;
        }
    }

    private Machine freshMachine() {
        if (machineIsOld) {
            machine.tell(words, false);
            machineIsOld = false;
        }
        return machine;
    }

    private int builderStates() {
        if (builder.size == 0) {
            return 0;
        }
        if (builderIsOld) {
            builderMachine.tell(builder, true);
            builderIsOld = false;
        }
        return builderMachine.states;
    }

    private int openStates() {
        return builder.size == 0 ? 0 : lettersIn(builder.lastWord()) + 1;
    }

    // ---- words that are asked for by what they are like

    public int range(int what) {
        int answer = rangeOnTape(what);
        tape.size = 0;
        return answer;
    }

    private int rangeOnTape(int what) {
        int dash = tape.lettersEnd(0);
        if (dash > MOST_LETTERS || tape.byteAt(dash) != '-' || what < 0 || what > 4) {
            return NONE;
        }
        if (tape.lettersEnd(dash + 1) != tape.size || tape.size - dash - 1 > MOST_LETTERS) {
            return NONE;
        }
        int from = words.ahead(tape.spelled(0, dash));
        int to = words.size;
        if (tape.size > dash + 1) {
            long high = tape.spelled(dash + 1, tape.size);
            to = words.ahead(high) + (words.placeOf(high) == NONE ? 0 : 1);
        }
        if (what == 0) {
            return Math.max(0, to - from);
        }
        if (what == 1) {
            return words.total(from, to);
        }
        if (from >= to) {
            return REFUSED;
        }
        return what == 4 ? from : what == 2 ? words.least(from, to) : words.greatest(from, to);
    }

    public int near(int d, int k) {
        long letters = takeLetters();
        if (letters == NO_LETTERS || d < 0 || d > MOST_FAR || k < NONE) {
            return NONE;
        }
        likeness.markNear(words, letters, d);
        return likeness.pick(k, words.size);
    }

    public int like(int k) {
        int answer = NONE;
        if (likeness.isPattern() && k >= NONE) {
            likeness.markLike(words);
            answer = likeness.pick(k, words.size);
        }
        tape.size = 0;
        return answer;
    }

    public int best(int k) {
        int length = tape.size;
        long letters = takeLetters();
        if (letters == NO_LETTERS || k < 0) {
            return NONE;
        }
        int from = words.ahead(letters);
        int to = from;
        while (to < words.size && headOf(words.words[to], length) == letters) {
            to++;
        }
        for (int rank = from; rank < to; rank++) {
            if (words.betterThan(rank, from, to) == k) {
                return rank;
            }
        }
        return REFUSED;
    }

    public int pieces(int what) {
        int answer = NONE;
        if (tape.size > 0 && tape.isLetters(MOST_TEXT)) {
            answer = piecesOnTape(what);
        }
        tape.size = 0;
        return answer;
    }

    private int piecesOnTape(int what) {
        switch (what) {
            case 0: return cutting.longest(false);
            case 1: return cutting.longest(true);
            case 2: return cutting.fewest();
            case 3: return cutting.greatestSum();
            case 4: return cutting.ways();
            default: return NONE;
        }
    }

    // ---- packed

    public int pack() {
        if (!packing.write(freshMachine())) {
            return REFUSED;
        }
        System.arraycopy(packing.bytes, 0, tape.bytes, 0, packing.size);
        tape.size = packing.size;
        return tape.size;
    }

    public int unpack() {
        int fault = unpacking.read();
        if (fault == 0 && !isPackedOnTape()) {
            fault = 8 * tape.size + 4;
        }
        tape.size = 0;
        if (fault != 0) {
            return -2 - fault;
        }
        becomeDraft();
        return words.size;
    }

    /** Whether what the tape tells is words, and what these are packed to is the tape; the draft has them then. */
    private boolean isPackedOnTape() {
        if (!unpacking.tellWords(draft)) {
            return false;
        }
        machine.tell(draft, false);
        machineIsOld = true;
        return packing.write(machine) && packing.isOn(tape);
    }

    // ---- counts

    public int count(int what) {
        switch (what) {
            case 0: return words.size;
            case 1: return freshMachine().states;
            case 2: return freshMachine().arcs;
            case 3: return words.leastNumber();
            case 4: return words.total(0, words.size);
            case 5: return builder.size;
            case 6: return openStates();
            case 7: return builderStates() - openStates();
            case 8: return history.size;
            case 9: return kept;
            case 10: return tape.size;
            case 11: return freshMachine().nodes;
            default: return NONE;
        }
    }

    // ---- words as longs: five bits a letter, the first letter highest, so that their order is that of the words

    private static int shiftOf(int i) {
        return LETTER_BITS * (MOST_LETTERS - 1 - i);
    }

    /** The i-th letter, 1 for a; 0 if there is none. */
    private static int letterOf(long word, int i) {
        return i < 0 || i >= MOST_LETTERS ? 0 : (int) (word >> shiftOf(i)) & 31;
    }

    private static long withLetter(long word, int i, int letter) {
        return i < 0 || i >= MOST_LETTERS ? word : word | (long) letter << shiftOf(i);
    }

    private static int lettersIn(long word) {
        int letters = 0;
        while (letters < MOST_LETTERS && letterOf(word, letters) != 0) {
            letters++;
        }
        return letters;
    }

    private static long headOf(long word, int letters) {
        int gone = LETTER_BITS * (MOST_LETTERS - Math.max(0, Math.min(letters, MOST_LETTERS)));
        return word >> gone << gone;
    }

    /** Bytes that have come and are not taken yet. */
    private static final class Tape {
        private final int[] bytes = new int[MOST_BYTES];
        private int size;

        private void addFour(int number) {
            for (int shift = 24; shift >= 0 && size < MOST_BYTES; shift -= 8) {
                bytes[size] = number >> shift & 255;
                size++;
            }
        }

        private int byteAt(int k) {
            return k >= 0 && k < size ? bytes[k] : NONE;
        }

        private static boolean isLetter(int sign) {
            return sign >= 'a' && sign <= 'z';
        }

        /** The place behind the letters that stand from a place on. */
        private int lettersEnd(int from) {
            int at = from;
            while (at < size && isLetter(byteAt(at))) {
                at++;
            }
            return at;
        }

        private boolean isLetters(int most) {
            return size <= most && lettersEnd(0) == size;
        }

        /** The letters between two places, as many as a word can have. */
        private long spelled(int from, int to) {
            long word = 0;
            int end = Math.min(to, from + MOST_LETTERS);
            for (int at = from; at < end; at++) {
                word = withLetter(word, at - from, byteAt(at) - 'a' + 1);
            }
            return word;
        }
    }

    /** Words in their order, each with its number. */
    private static final class Book {
        private final long[] words = new long[MOST_WORDS];
        private final int[] numbers = new int[MOST_WORDS];
        private int size;

        private void clear() {
            size = 0;
        }

        private boolean has(int place) {
            return place >= 0 && place < size;
        }

        private long lastWord() {
            return size > 0 ? words[size - 1] : 0;
        }

        /** How many words stand ahead of these letters. */
        private int ahead(long letters) {
            int low = 0;
            int high = size;
            while (low < high) {
                int middle = (low + high) / 2;
                if (words[middle] < letters) {
                    low = middle + 1;
                } else {
                    high = middle;
                }
            }
            return low;
        }

        private int placeOf(long letters) {
            int place = ahead(letters);
            return place < size && words[place] == letters ? place : NONE;
        }

        /** False if there is no room. */
        private boolean addLast(long word, int number) {
            if (size >= MOST_WORDS) {
                return false;
            }
            words[size] = word;
            numbers[size] = number;
            size++;
            return true;
        }

        /** The word gets the number, there or new, as long as there is room. */
        private void enter(long word, int number) {
            int place = ahead(word);
            boolean isNew = place >= size || words[place] != word;
            if (isNew && size >= MOST_WORDS) {
                return;
            }
            if (isNew) {
                System.arraycopy(words, place, words, place + 1, size - place);
                System.arraycopy(numbers, place, numbers, place + 1, size - place);
                size++;
            }
            words[place] = word;
            numbers[place] = number;
        }

        private void removeAt(int place) {
            if (!has(place)) {
                return;
            }
            size--;
            System.arraycopy(words, place + 1, words, place, size - place);
            System.arraycopy(numbers, place + 1, numbers, place, size - place);
        }

        private void takeFrom(Book other) {
            size = other.size;
            System.arraycopy(other.words, 0, words, 0, size);
            System.arraycopy(other.numbers, 0, numbers, 0, size);
        }

        private boolean isLike(Book other) {
            if (size != other.size) {
                return false;
            }
            for (int i = 0; i < size; i++) {
                if (words[i] != other.words[i] || numbers[i] != other.numbers[i]) {
                    return false;
                }
            }
            return true;
        }

        private int total(int from, int to) {
            int sum = 0;
            for (int i = from; i < to; i++) {
                sum += numbers[i];
            }
            return sum;
        }

        private int leastNumber() {
            return size == 0 ? 0 : least(0, size);
        }

        private int least(int from, int to) {
            int least = MOST_NUMBER;
            for (int i = from; i < to; i++) {
                least = Math.min(least, numbers[i]);
            }
            return least;
        }

        private int greatest(int from, int to) {
            int greatest = 0;
            for (int i = from; i < to; i++) {
                greatest = Math.max(greatest, numbers[i]);
            }
            return greatest;
        }

        /** How many of the words between two places are better than the one of a place: greater, or like and ahead. */
        private int betterThan(int place, int from, int to) {
            int better = 0;
            for (int i = from; i < to; i++) {
                if (numbers[i] > numbers[place] || numbers[i] == numbers[place] && i < place) {
                    better++;
                }
            }
            return better;
        }
    }

    /** What the last acts have changed: words and builder as they were ahead of each. */
    private static final class History {
        private final Book[] words = new Book[MOST_ACTS];
        private final Book[] builders = new Book[MOST_ACTS];
        private int oldest;
        private int size;

        private History() {
            for (int i = 0; i < MOST_ACTS; i++) {
                words[i] = new Book();
                builders[i] = new Book();
            }
        }

        private void save(Book wordsNow, Book builderNow) {
            int slot = (oldest + size) % MOST_ACTS;
            if (size < MOST_ACTS) {
                size++;
            } else {
                oldest = (oldest + 1) % MOST_ACTS;
            }
            words[slot].takeFrom(wordsNow);
            builders[slot].takeFrom(builderNow);
        }

        private void takeBack(Book wordsNow, Book builderNow) {
            if (size == 0) {
                return;
            }
            size--;
            int slot = (oldest + size) % MOST_ACTS;
            wordsNow.takeFrom(words[slot]);
            builderNow.takeFrom(builders[slot]);
        }
    }

    /** Reads the tape as a list. */
    private static final class ListReader {
        private final Tape tape;
        private final Book told = new Book();
        private int at;
        private int fault;

        private ListReader(Tape tape) {
            this.tape = tape;
        }

        /** Enters the list's words into the book; the fault of the tape, 0 if it tells a list. */
        private int read(Book book) {
            at = 0;
            fault = 0;
            told.clear();
            boolean more = true;
            // each item but the last has a comma, so there can't be more of them than bytes
            for (int items = 0; more && items <= MOST_BYTES; items++) {
                readItem(book);
                more = fault == 0 && goesOn();
            }
            return fault;
        }

        private void readItem(Book book) {
            skipBlanks();
            int begin = at;
            at = tape.lettersEnd(at);
            if (at == begin) {
                fail(begin, 1);
                return;
            }
            long word = tape.spelled(begin, at);
            if (at - begin > MOST_LETTERS) {
                fail(begin, 2);
            } else if (told.placeOf(word) != NONE) {
                fail(begin, 3);
            } else if (book.placeOf(word) == NONE && book.size >= MOST_WORDS) {
                fail(begin, 4);
            } else {
                told.enter(word, 0);
                book.enter(word, readNumber());
            }
        }

        /** The number behind a word, 0 without one. */
        private int readNumber() {
            skipBlanks();
            if (tape.byteAt(at) != '=') {
                return 0;
            }
            at++;
            skipBlanks();
            int begin = at;
            int number = 0;
            while (at < tape.size && isDigit(tape.byteAt(at))) {
                // held just above the greatest NUMBER, for it may have hundreds of digits
                number = Math.min(number * 10 + tape.byteAt(at) - '0', MOST_NUMBER + 1);
                at++;
            }
            if (at == begin) {
                fail(begin, 1);
            } else if (number > MOST_NUMBER) {
                fail(begin, 2);
            }
            return number;
        }

        /** Whether a comma says that another item comes; a fault, if neither it nor the end does. */
        private boolean goesOn() {
            skipBlanks();
            if (at >= tape.size) {
                return false;
            }
            if (tape.byteAt(at) != ',') {
                fail(at, 1);
                return false;
            }
            at++;
            return true;
        }

        private void skipBlanks() {
            while (at < tape.size && tape.byteAt(at) == ' ') {
                at++;
            }
        }

        private static boolean isDigit(int sign) {
            return sign >= '0' && sign <= '9';
        }

        private void fail(int place, int kind) {
            fault = 8 * place + kind;
        }
    }

    /**
     * All beginnings of a book's words as nodes of a tree, and the states that nodes of like rests share. Nodes stand
     * as the words are gone through letter by letter: what goes on from a node are the nodes right behind it.
     */
    private static final class Machine {
        private final int[] letter = new int[MOST_NODES];
        private final int[] depth = new int[MOST_NODES];
        private final int[] parent = new int[MOST_NODES];
        private final int[] numberAt = new int[MOST_NODES];
        private final int[] least = new int[MOST_NODES];
        private final int[] span = new int[MOST_NODES];
        private final int[] twin = new int[MOST_NODES];
        private final int[] stateOf = new int[MOST_NODES];
        private final int[] nodeOf = new int[MOST_NODES];
        private final int[] bucket = new int[BUCKETS];
        private final int[] nextInBucket = new int[MOST_NODES];
        private final int[] path = new int[MOST_LETTERS + 1];
        private final int[] firstArc = new int[MOST_NODES + 1];
        private final int[] arcNodes = new int[MOST_NODES];
        private int nodes;
        private int states;
        private int arcs;

        /** With lastOpen each beginning of the last word has a state for itself, as long as the book is built. */
        private void tell(Book book, boolean lastOpen) {
            plant(book);
            measure(book.size == 0);
            findTwins(lastOpen);
            numberStates();
            listArcs();
        }

        private void plant(Book book) {
            nodes = 0;
            addNode(0, 0, NONE);
            path[0] = 0;
            long before = 0;
            for (int i = 0; i < book.size; i++) {
                long word = book.words[i];
                int letters = lettersIn(word);
                int shared = sharedLetters(before, word);
                for (int at = shared; at < letters; at++) {
                    path[at + 1] = addNode(at + 1, letterOf(word, at), path[at]);
                }
                numberAt[path[letters]] = book.numbers[i];
                before = word;
            }
        }

        private static int sharedLetters(long a, long b) {
            int shared = 0;
            while (shared < MOST_LETTERS && letterOf(a, shared) != 0 && letterOf(a, shared) == letterOf(b, shared)) {
                shared++;
            }
            return shared;
        }

        private int addNode(int newDepth, int newLetter, int newParent) {
            int node = nodes;
            if (node >= MOST_NODES) {
                return MOST_NODES - 1;
            }
            depth[node] = newDepth;
            letter[node] = newLetter;
            parent[node] = newParent;
            numberAt[node] = NONE;
            nodes++;
            return node;
        }

        /** The least number and the number of nodes from each node on; a node stands ahead of all that go on from it. */
        private void measure(boolean empty) {
            for (int node = 0; node < nodes; node++) {
                span[node] = 1;
                least[node] = numberAt[node] == NONE ? MOST_NUMBER : numberAt[node];
            }
            for (int node = nodes - 1; node > 0; node--) {
                int up = parent[node];
                span[up] += span[node];
                least[up] = Math.min(least[up], least[node]);
            }
            if (empty) {
                least[0] = 0;
            }
        }

        private void findTwins(boolean lastOpen) {
            Arrays.fill(bucket, NONE);
            for (int node = nodes - 1; node >= 0; node--) {
                // the last node ends the last word: if it has no twin, no node on the way to it can have one
                boolean isAlone = lastOpen && node == nodes - 1;
                twin[node] = isAlone ? node : twinOf(node);
            }
        }

        /** The node of like rest that was found first, the node itself if there was none. */
        private int twinOf(int node) {
            int row = hashOf(node) & BUCKETS - 1;
            int other = bucket[row];
            for (int i = 0; i < nodes && other != NONE; i++) {
                if (areAlike(node, other)) {
                    return other;
                }
                other = nextInBucket[other];
            }
            nextInBucket[node] = bucket[row];
            bucket[row] = node;
            return node;
        }

        private int hashOf(int node) {
            int hash = endsWith(node);
            int end = node + span[node];
            for (int next = node + 1; next < end; next += Math.max(1, span[next])) {
                hash = hash * 31 + letter[next];
                hash = hash * 31 + outputTo(next);
                hash = hash * 31 + twin[next];
            }
            return hash + (hash >>> 10) + (hash >>> 20);
        }

        private boolean areAlike(int a, int b) {
            if (span[a] != span[b] || endsWith(a) != endsWith(b)) {
                return false;
            }
            int end = a + span[a];
            for (int x = a + 1; x < end; x += Math.max(1, span[x])) {
                // twins have as many nodes, so as long as all is alike what goes on from b stands as far behind it
                int y = x - a + b;
                if (letter[x] != letter[y] || outputTo(x) != outputTo(y) || twin[x] != twin[y]) {
                    return false;
                }
            }
            return true;
        }

        private void numberStates() {
            Arrays.fill(stateOf, 0, nodes, NONE);
            states = 0;
            for (int node = 0; node < nodes; node++) {
                if (stateOf[twin[node]] == NONE) {
                    stateOf[twin[node]] = states;
                    nodeOf[states] = node;
                    states++;
                }
                stateOf[node] = stateOf[twin[node]];
            }
        }

        /** A state's arcs are those of its first node: from its first one on till the first one of the state behind. */
        private void listArcs() {
            arcs = 0;
            for (int s = 0; s < states; s++) {
                firstArc[s] = arcs;
                int end = nodeOf[s] + span[nodeOf[s]];
                for (int next = nodeOf[s] + 1; next < end; next += Math.max(1, span[next])) {
                    arcNodes[arcs] = next;
                    arcs++;
                }
            }
            firstArc[states] = arcs;
        }

        private boolean hasState(int s) {
            return s >= 0 && s < states;
        }

        /** What a node ends with, less the least; REFUSED if no word ends there. */
        private int endsWith(int node) {
            return numberAt[node] == NONE ? REFUSED : numberAt[node] - least[node];
        }

        /** The output of the arc that comes to a node (not the root). */
        private int outputTo(int node) {
            return parent[node] == NONE ? 0 : least[node] - least[parent[node]];
        }

        /** The state behind these letters, NONE if no word begins with them. */
        private int stateBehind(long letters) {
            int s = 0;
            int wanted = lettersIn(letters);
            for (int i = 0; i < wanted && s != NONE; i++) {
                s = nextState(s, letterOf(letters, i));
            }
            return s;
        }

        private int nextState(int s, int wanted) {
            for (int i = firstArc[s]; i < firstArc[s + 1]; i++) {
                if (letter[arcNodes[i]] == wanted) {
                    return stateOf[arcNodes[i]];
                }
            }
            return NONE;
        }

        private int arcsFrom(int s) {
            return firstArc[s + 1] - firstArc[s];
        }

        /** The node to which the k-th arc of a state's first node goes. */
        private int arcNode(int s, int k) {
            return arcNodes[firstArc[s] + k];
        }

        private int arcsTo(int s) {
            int come = 0;
            for (int i = 0; i < arcs; i++) {
                if (stateOf[arcNodes[i]] == s) {
                    come++;
                }
            }
            return come;
        }

        private int shortestBeginning(int s) {
            int shortest = MOST_LETTERS;
            for (int node = 0; node < nodes; node++) {
                if (stateOf[node] == s) {
                    shortest = Math.min(shortest, depth[node]);
                }
            }
            return shortest;
        }

        private int beginningsOf(int s) {
            int beginnings = 0;
            for (int node = 0; node < nodes; node++) {
                if (stateOf[node] == s) {
                    beginnings++;
                }
            }
            return beginnings;
        }

        private int wordsBehind(int node) {
            int ends = 0;
            for (int i = node; i < node + span[node]; i++) {
                if (numberAt[i] != NONE) {
                    ends++;
                }
            }
            return ends;
        }

        private int longestBehind(int node) {
            int longest = REFUSED;
            for (int i = node; i < node + span[node]; i++) {
                if (numberAt[i] != NONE) {
                    longest = Math.max(longest, depth[i] - depth[node]);
                }
            }
            return longest;
        }

        private int shortestBehind(int node) {
            int shortest = REFUSED;
            for (int i = node; i < node + span[node]; i++) {
                int letters = depth[i] - depth[node];
                if (numberAt[i] != NONE && (shortest == REFUSED || letters < shortest)) {
                    shortest = letters;
                }
            }
            return shortest;
        }

        private int greatestBehind(int node) {
            int greatest = REFUSED;
            for (int i = node; i < node + span[node]; i++) {
                if (numberAt[i] != NONE) {
                    greatest = Math.max(greatest, numberAt[i] - least[node]);
                }
            }
            return greatest;
        }
    }

    /** A machine as bytes. */
    private static final class Packing {
        private final int[] bytes = new int[MOST_BYTES];
        private int size;
        private boolean isTooLong;

        /** False if it takes more bytes than the tape can have. */
        private boolean write(Machine machine) {
            size = 0;
            isTooLong = false;
            addNumber(machine.states);
            addNumber(machine.least[0]);
            for (int s = 0; s < machine.states && !isTooLong; s++) {
                addState(machine, s);
            }
            return !isTooLong;
        }

        private void addState(Machine machine, int s) {
            int node = machine.nodeOf[s];
            int ends = machine.endsWith(node);
            addNumber(2 * machine.arcsFrom(s) + (ends == REFUSED ? 0 : 1));
            if (ends != REFUSED) {
                addNumber(ends);
            }
            for (int k = 0; k < machine.arcsFrom(s); k++) {
                int next = machine.arcNode(s, k);
                addNumber(machine.letter[next]);
                addNumber(machine.outputTo(next));
                addNumber(machine.stateOf[next]);
            }
        }

        private void addNumber(int number) {
            int left = number;
            for (int i = 1; i < MOST_NUMBER_BYTES && left > 127; i++) {
                addByte(left & 127 | 128);
                left >>= 7;
            }
            addByte(left);
        }

        private void addByte(int octet) {
            if (size >= MOST_BYTES) {
                isTooLong = true;
                return;
            }
            bytes[size] = octet;
            size++;
        }

        private boolean isOn(Tape tape) {
            if (tape.size != size) {
                return false;
            }
            for (int i = 0; i < size; i++) {
                if (tape.bytes[i] != bytes[i]) {
                    return false;
                }
            }
            return true;
        }
    }

    /** Reads the tape as the bytes of a machine. */
    private static final class Unpacking {
        private static final int MOST_HEAD = 53;

        private final Tape tape;
        private final int[] ends = new int[MOST_NODES];
        /** The arcs of a state: from here on till those of the state behind it (0 for the first state always). */
        private final int[] firstArc = new int[MOST_NODES + 1];
        private final int[] letters = new int[MOST_BYTES];
        private final int[] outputs = new int[MOST_BYTES];
        private final int[] targets = new int[MOST_BYTES];
        private int at;
        private int fault;
        private int states;
        private int start;
        private int arcs;
        private int visits;

        private Unpacking(Tape tape) {
            this.tape = tape;
        }

        /** The fault of the bytes for themselves, 0 if they are a row of numbers as told. */
        private int read() {
            at = 0;
            fault = 0;
            arcs = 0;
            states = takeNumber(1, MOST_NODES);
            start = fault == 0 ? takeNumber(0, MOST_NUMBER) : 0;
            for (int s = 0; s < states && fault == 0; s++) {
                readState(s);
            }
            if (fault == 0 && at < tape.size) {
                fault = 8 * at + 3;
            }
            return fault;
        }

        private void readState(int s) {
            int head = takeNumber(0, MOST_HEAD);
            ends[s] = fault == 0 && head % 2 == 1 ? takeNumber(0, MOST_NUMBER) : NONE;
            int letter = 0;
            for (int i = 0; i < head / 2 && fault == 0; i++) {
                letter = readArc(letter);
            }
            firstArc[s + 1] = arcs;
        }

        private int readArc(int letterAhead) {
            int letter = takeNumber(letterAhead + 1, 26);
            int output = fault == 0 ? takeNumber(0, MOST_NUMBER) : 0;
            int target = fault == 0 ? takeNumber(0, states - 1) : 0;
            // an arc takes three bytes at least, so there is always room
            if (fault == 0 && arcs < MOST_BYTES) {
                letters[arcs] = letter;
                outputs[arcs] = output;
                targets[arcs] = target;
                arcs++;
            }
            return letter;
        }

        /** The next number, between two; NONE with a fault. */
        private int takeNumber(int low, int high) {
            int begin = at;
            int number = 0;
            for (int i = 0; i < MOST_NUMBER_BYTES; i++) {
                int octet = tape.byteAt(at);
                if (octet == NONE) {
                    fault = 8 * tape.size + 1;
                    return NONE;
                }
                at++;
                number |= (octet & 127) << 7 * i;
                if (octet < 128 && number >= low && number <= high) {
                    return number;
                }
                if (octet < 128) {
                    break;
                }
            }
            fault = 8 * begin + 2;
            return NONE;
        }

        /** Puts what was read into a book; false if it is no words as told. */
        private boolean tellWords(Book book) {
            book.clear();
            visits = 0;
            return walk(this, book, 0, 0, 0L, start);
        }

        private static boolean walk(Unpacking from, Book book, int s, int depth, long word, int sum) {
            // words as told have no more beginnings: whatever goes deeper or on for longer is a ring or too much
            if (depth > MOST_LETTERS || from.visits >= MOST_NODES) {
                return false;
            }
            from.visits++;
            if (from.ends[s] != NONE && !addWord(book, depth, word, sum + from.ends[s])) {
                return false;
            }
            for (int i = from.firstArc[s]; i < from.firstArc[s + 1]; i++) {
                long longer = withLetter(word, depth, from.letters[i]);
                if (!walk(from, book, from.targets[i], depth + 1, longer, sum + from.outputs[i])) {
                    return false;
                }
            }
            return true;
        }

        private static boolean addWord(Book book, int depth, long word, int number) {
            return depth > 0 && isNumber(number) && book.addLast(word, number);
        }
    }

    /** Cuts the tape, a text of letters, into words of a book. */
    private static final class Cutting {
        /** Below every sum, also of as many pieces that count -1 each as there are letters. */
        private static final int NOT_REACHED = -MOST_TEXT - 1;

        private final Tape tape;
        private final Book book;
        private final int[] found = new int[MOST_TEXT + 1];

        private Cutting(Tape tape, Book book) {
            this.tape = tape;
            this.book = book;
        }

        /** The place of the word of so many letters that stands somewhere in the text, NONE if none does. */
        private int pieceAt(int from, int length) {
            return from + length > tape.size ? NONE : book.placeOf(tape.spelled(from, from + length));
        }

        /** Always the longest word: how many there are, or where they end. */
        private int longest(boolean where) {
            int at = 0;
            int pieces = 0;
            int step = longestAt(at);
            while (at < tape.size && step > 0) {
                at += step;
                pieces++;
                step = longestAt(at);
            }
            return where ? at : pieces;
        }

        private int longestAt(int from) {
            for (int length = MOST_LETTERS; length > 0; length--) {
                if (pieceAt(from, length) != NONE) {
                    return length;
                }
            }
            return 0;
        }

        private int fewest() {
            return spread(false);
        }

        private int greatestSum() {
            return spread(true);
        }

        /** The greatest sum, or the fewest pieces (as the greatest sum of pieces that count -1 each). */
        private int spread(boolean byNumbers) {
            int end = Math.min(tape.size, MOST_TEXT);
            Arrays.fill(found, NOT_REACHED);
            found[0] = 0;
            for (int from = 0; from < end; from++) {
                for (int length = 1; length <= MOST_LETTERS && found[from] != NOT_REACHED; length++) {
                    int place = pieceAt(from, length);
                    if (place != NONE && from + length <= MOST_TEXT) {
                        int sum = found[from] + (byNumbers ? book.numbers[place] : -1);
                        found[from + length] = Math.max(found[from + length], sum);
                    }
                }
            }
            if (found[end] == NOT_REACHED) {
                return REFUSED;
            }
            return byNumbers ? found[end] : -found[end];
        }

        private int ways() {
            int end = Math.min(tape.size, MOST_TEXT);
            Arrays.fill(found, 0);
            found[0] = 1;
            for (int from = 0; from < end; from++) {
                for (int length = 1; length <= MOST_LETTERS && found[from] != 0; length++) {
                    if (pieceAt(from, length) != NONE && from + length <= MOST_TEXT) {
                        found[from + length] = (found[from + length] + found[from]) % WAYS_RING;
                    }
                }
            }
            return found[end];
        }
    }

    /** Marks words of a book that are near to letters, or like the pattern on the tape. */
    private static final class Likeness {
        private final Tape tape;
        private final boolean[] marked = new boolean[MOST_WORDS];
        private final int[] row = new int[MOST_LETTERS + 1];

        private Likeness(Tape tape) {
            this.tape = tape;
        }

        /** The k-th marked place, k NONE: how many are marked. */
        private int pick(int k, int size) {
            int found = 0;
            for (int place = 0; place < size; place++) {
                if (marked[place]) {
                    if (found == k) {
                        return place;
                    }
                    found++;
                }
            }
            return k == NONE ? found : REFUSED;
        }

        private void markNear(Book book, long letters, int d) {
            for (int place = 0; place < book.size; place++) {
                marked[place] = far(letters, book.words[place]) <= d;
            }
        }

        /** Row by row, one for each letter of a: how far its letters till there are from each beginning of b. */
        private int far(long a, long b) {
            int rows = lettersIn(a);
            int columns = lettersIn(b);
            for (int j = 0; j <= columns; j++) {
                row[j] = j;
            }
            for (int i = 0; i < rows; i++) {
                int corner = row[0];
                row[0] = i + 1;
                for (int j = 0; j < columns; j++) {
                    int changed = corner + (letterOf(a, i) == letterOf(b, j) ? 0 : 1);
                    corner = row[j + 1];
                    row[j + 1] = Math.min(changed, Math.min(row[j], corner) + 1);
                }
            }
            return row[columns];
        }

        private boolean isPattern() {
            if (tape.size == 0 || tape.size > MOST_SIGNS) {
                return false;
            }
            for (int i = 0; i < tape.size; i++) {
                int sign = tape.byteAt(i);
                if (sign != '?' && sign != '*' && !Tape.isLetter(sign)) {
                    return false;
                }
            }
            return true;
        }

        private void markLike(Book book) {
            for (int place = 0; place < book.size; place++) {
                marked[place] = fitsPattern(book.words[place]);
            }
        }

        /** Bit j of the places tells that the first j signs can stand for the letters till here. */
        private boolean fitsPattern(long word) {
            int places = passStars(1);
            int letters = lettersIn(word);
            for (int i = 0; i < letters; i++) {
                places = passStars(passLetter(places, letterOf(word, i) + 'a' - 1));
            }
            return (places >> tape.size & 1) != 0;
        }

        private int passLetter(int places, int letter) {
            int passed = 0;
            for (int j = 0; j < tape.size; j++) {
                int sign = tape.byteAt(j);
                if ((places >> j & 1) != 0 && sign == '*') {
                    passed |= 1 << j;
                } else if ((places >> j & 1) != 0 && (sign == '?' || sign == letter)) {
                    passed |= 1 << j + 1;
                }
            }
            return passed;
        }

        private int passStars(int places) {
            int passed = places;
            for (int j = 0; j < tape.size; j++) {
                if ((passed >> j & 1) != 0 && tape.byteAt(j) == '*') {
                    passed |= 1 << j + 1;
                }
            }
            return passed;
        }
    }
}
