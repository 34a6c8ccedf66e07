import java.util.List;
import java.util.function.ToIntFunction;

/** Promises 15 to 30 (what is asked; packed and unpacked), sentence by sentence, each with a test of its own. */
public final class AnswersTest extends Sentences {
    private static final int MIN = Integer.MIN_VALUE;
    private static final int MAX = Integer.MAX_VALUE;
    private static final String EMPTY_THEN = "The TAPE, which is empty then";
    private static final List<String> NO_LETTERS = List.of("Cat", "ca t", " ", "cat ", "cat=1", "ca?", "ca\0", "c\u00e1t", "`", "{",
            "7", "-");

    public static void main(String[] args) {
        AnswersTest test = new AnswersTest();
        test.number();
        test.rank();
        test.word();
        test.value();
        test.first();
        test.state();
        test.arc();
        test.about();
        test.aboutLeft();
        test.range();
        test.rangeRefused();
        test.near();
        test.like();
        test.best();
        test.pieces();
        test.pack();
        test.unpack();
        test.count();
        test.countMore();
        test.close();
    }

    /** The call takes these texts; the tape is empty behind each, and nothing else has happened. */
    private void tapeEmptyThen(ToIntFunction<NumberWords> asked, String... texts) {
        for (String text : texts) {
            NumberWords x = Say.to(Made.busy(), text);
            tapeAloneGoes(text, Made::busy, asked, asked.applyAsInt(x));
            due("bytes behind \"" + text + "\"", x.count(10), 0);
            due("feed then", x.feed(0, 0, 0, 0, 0), 20);
        }
    }

    private void none(ToIntFunction<NumberWords> asked, List<String> texts) {
        for (String text : texts) {
            due("of \"" + text + "\"", asked.applyAsInt(Say.to(Made.animals(), text)), NONE);
        }
    }

    private void number() {
        promise(15);
        says(EMPTY_THEN, () -> tapeEmptyThen(NumberWords::number, "cat", "cow", "", "Cat", "x".repeat(400)));
        says("is a WORD: its NUMBER", () -> {
            NumberWords x = Made.told("cat=5,do=0,abcdefghij=999999,z=1");
            due("cat", Say.to(x, "cat").number(), 5);
            due("do", Say.to(x, "do").number(), 0);
            due("of ten letters", Say.to(x, "abcdefghij").number(), 999999);
            due("z", Say.to(x, "z").number(), 1);
        });
        says("-2: it is not there", () -> {
            for (String text : List.of("ca", "cats", "a", "z", "dof", "catcatcatc")) {
                due(text, Say.to(Made.animals(), text).number(), -2);
            }
            due("without words", Say.to(new NumberWords(), "a").number(), -2);
        });
        says("NONE, if it is no WORD", () -> {
            none(NumberWords::number, NO_LETTERS);
            none(NumberWords::number, List.of("", "catcatcatca", "x".repeat(400)));
        });
    }

    private void rank() {
        promise(16);
        says(EMPTY_THEN, () -> tapeEmptyThen(NumberWords::rank, "cat", "", "Cat", "x".repeat(60), "x".repeat(61)));
        says("is letters (perhaps none; 60 at most): RANK that they would have", () -> {
            NumberWords x = Made.told("abcdefghij,car,cat,do,dog");
            String[] texts = {"a", "abcdefghij", "abcdefghija", "abcdefghik", "car", "cas", "cat", "cata", "cb", "do", "doa", "dog",
                "doga", "e", "zzzzzzzzzz"};
            int[] ranks = {0, 0, 1, 1, 1, 2, 2, 3, 3, 3, 4, 4, 5, 5, 5};
            for (int i = 0; i < texts.length; i++) {
                due("rank " + texts[i], Say.to(x, texts[i]).rank(), ranks[i]);
            }
            due("none", Say.to(x, "").rank(), 0);
            due("60", Say.to(x, "d".repeat(60)).rank(), 3);
            due("60, ahead of a word of ten", Say.to(x, "abcdefghii" + "z".repeat(50)).rank(), 0);
            due("60, behind a word of ten", Say.to(x, "abcdefghij" + "a".repeat(50)).rank(), 1);
            due("behind 100", Say.to(Made.full(), "z").rank(), 100);
        });
        says("NONE for others", () -> {
            none(NumberWords::rank, NO_LETTERS);
            none(NumberWords::rank, List.of("d".repeat(61), "d".repeat(400)));
        });
    }

    private void word() {
        promise(17);
        says("The i-th letter (0 the first; 1 for a) of the WORD of a RANK", () -> {
            NumberWords x = Made.told("cat,abz,zyxwvutsrq");
            String[] order = {"abz", "cat", "zyxwvutsrq"};
            for (int rank = 0; rank < order.length; rank++) {
                for (int i = 0; i < order[rank].length(); i++) {
                    due("word(" + rank + ", " + i + ")", x.word(rank, i), order[rank].charAt(i) - 'a' + 1);
                }
            }
            nothingHappens("word", Made::busy, y -> y.word(3, 1), 24);
        });
        says("i NONE: how many", () -> {
            NumberWords x = Made.told("a,cat,zyxwvutsrq");
            due("of a", x.word(0, NONE), 1);
            due("of cat", x.word(1, NONE), 3);
            due("of ten", x.word(2, NONE), 10);
        });
        says("NONE without these", () -> {
            NumberWords x = Made.told("cat,zyxwvutsrq");
            int[][] others = {{0, 3}, {0, 9}, {0, 10}, {0, MAX}, {1, 10}, {1, 11}, {0, -2}, {0, MIN}, {2, 0}, {2, NONE}, {-1, 0},
                {-1, NONE}, {100, 0}, {MIN, NONE}, {MAX, NONE}};
            for (int[] other : others) {
                due("word(" + other[0] + ", " + other[1] + ")", x.word(other[0], other[1]), NONE);
            }
            due("the 101st", Made.full().word(100, NONE), NONE);
            due("without words", new NumberWords().word(0, NONE), NONE);
            Say.to(x, "cat").cut();
            due("what was cut", x.word(1, NONE), NONE);
        });
    }

    private void value() {
        promise(18);
        says("The NUMBER of the WORD of a RANK", () -> {
            NumberWords x = Made.told("b=999999,a=5,c=0");
            due("value(0)", x.value(0), 5);
            due("value(1)", x.value(1), 999999);
            due("value(2)", x.value(2), 0);
            nothingHappens("value", Made::busy, y -> y.value(3), 9);
        });
        says("NONE without it", () -> {
            for (int rank : new int[] {4, 5, 99, 100, MAX, -1, MIN}) {
                due("value(" + rank + ")", Made.animals().value(rank), NONE);
            }
            due("the 101st", Made.full().value(100), NONE);
            due("without words", new NumberWords().value(0), NONE);
        });
    }

    private void first() {
        promise(19);
        NumberWords x = Made.told("d=0,b=4,a=7,c=4,e=999999");
        says("The first WORD, in their order, with a NUMBER: its RANK", () -> {
            due("first(4)", x.first(4), 1);
            due("first(7)", x.first(7), 0);
            due("first(0)", x.first(0), 3);
            due("first(999999)", x.first(999999), 4);
            due("the last of 100", Made.ofBytes(0).first(4), 99);
            nothingHappens("first", Made::busy, y -> y.first(9), 3);
        });
        says("-2: there is none", () -> {
            for (int number : new int[] {1, 5, 8, 999998}) {
                due("first(" + number + ")", x.first(number), -2);
            }
            due("without words", new NumberWords().first(0), -2);
        });
        says("NONE for others", () -> {
            for (int number : new int[] {-1, 1000000, -2, MIN, MAX}) {
                due("first(" + number + ")", x.first(number), NONE);
                due("first(" + number + ") without words", new NumberWords().first(number), NONE);
            }
        });
    }

    // ---- states

    private void state() {
        promise(20);
        says(EMPTY_THEN, () -> tapeEmptyThen(NumberWords::state, "ca", "x", "", "Cat", "x".repeat(400)));
        says("is a BEGINNING: its STATE", () -> {
            NumberWords x = Made.animals();
            String[] beginnings = {"", "c", "ca", "car", "cat", "d", "do", "dog"};
            int[] states = {0, 1, 2, 3, 3, 4, 5, 3};
            for (int i = 0; i < states.length; i++) {
                due("state " + beginnings[i], Say.state(x, beginnings[i]), states[i]);
            }
            due("of ten letters", Say.state(Made.told("abcdefghij"), "abcdefghij"), 10);
            Say.put(x, "a", 0);
            due("numbered anew", Say.state(x, "c"), 2);
            due("the end that a has, too", Say.state(x, "cat"), 1);
        });
        says("-2: it is none", () -> {
            for (String text : List.of("a", "x", "cb", "cats", "dogg", "catcatcatc", "catcatcatca", "c".repeat(60), "c".repeat(61),
                    "c".repeat(400))) {
                due("state " + text, Say.state(Made.animals(), text), -2);
            }
            due("of ten letters and one", Say.state(Made.told("abcdefghij"), "abcdefghijk"), -2);
            due("without words", Say.state(new NumberWords(), "a"), -2);
        });
        says("NONE, if it is not of letters (perhaps none)", () -> {
            none(NumberWords::state, NO_LETTERS);
            none(NumberWords::state, List.of("c".repeat(399) + "C", "c".repeat(11) + " "));
            due("none", Say.state(Made.animals(), ""), 0);
        });
    }

    private void arc() {
        promise(21);
        says("Of the k-th ARC (0 the first) of a STATE what 0: its letter", () -> arcsDue(0, 2));
        says("1: its OUTPUT", () -> arcsDue(1, 3));
        says("2: its STATE", () -> arcsDue(2, 4));
        says("k NONE: how many", () -> {
            NumberWords x = Made.animals();
            int[] many = {2, 1, 2, 0, 1, 1};
            for (int s = 0; s < many.length; s++) {
                due("arcs of " + s, x.arc(s, NONE, 0), many[s]);
            }
            due("without words", new NumberWords().arc(0, NONE, 0), 0);
        });
        says("NONE without these", () -> {
            NumberWords x = Made.animals();
            int[][] others = {{6, 0, 0}, {6, NONE, 0}, {7, 0, 0}, {-1, 0, 0}, {-1, NONE, 0}, {MIN, 0, 0}, {MAX, NONE, 0}, {0, 2, 0},
                {0, 3, 1}, {1, 1, 2}, {3, 0, 0}, {5, 1, 0}, {0, -2, 0}, {0, MIN, 0}, {0, MAX, 0}, {0, 0, 3}, {0, 0, -1}, {0, 1, MAX},
                {0, 1, MIN}};
            for (int[] other : others) {
                due("arc(" + other[0] + ", " + other[1] + ", " + other[2] + ")", x.arc(other[0], other[1], other[2]), NONE);
            }
            due("without words", new NumberWords().arc(0, 0, 0), NONE);
            due("without words, of state 1", new NumberWords().arc(1, NONE, 0), NONE);
        });
    }

    /** Of each arc of the animals' machine: its state, its place, letter, output, where it goes. */
    private void arcsDue(int what, int column) {
        int[][] arcs = {{0, 0, 3, 1, 1}, {0, 1, 4, 0, 4}, {1, 0, 1, 0, 2}, {2, 0, 18, 0, 3}, {2, 1, 20, 2, 3}, {4, 0, 15, 0, 5},
            {5, 0, 7, 5, 3}};
        for (int[] arc : arcs) {
            due("arc(" + arc[0] + ", " + arc[1] + ", " + what + ")", Made.animals().arc(arc[0], arc[1], what), arc[column]);
        }
        nothingHappens("arc", Made::busy, x -> x.arc(0, NONE, 0), 3);
    }

    private void aboutDue(String list, int what, int... wants) {
        NumberWords x = list.isEmpty() ? new NumberWords() : Made.told(list);
        for (int s = 0; s < wants.length; s++) {
            due("about(" + s + ", " + what + ") of " + list, x.about(s, what), wants[s]);
        }
        due("states of " + list, x.count(1), wants.length);
    }

    private static final String ANIMALS = "cat=5,car=3,dog=7,do=2";

    private void about() {
        promise(22);
        says("Of a STATE what 0: what it ENDS with (-2: it does not)", () -> {
            aboutDue(ANIMALS, 0, -2, -2, -2, 0, -2, 0);
            aboutDue("a=9,ab=4,abc=5", 0, -2, 5, 0, 0);
            aboutDue("a=999999,ab=0", 0, -2, 999999, 0);
            aboutDue("", 0, -2);
        });
        says("4: how many ARCS come to it", () -> {
            aboutDue(ANIMALS, 4, 0, 1, 1, 3, 1, 1);
            aboutDue("xab,yab,ab", 4, 0, 2, 1, 2);
            aboutDue("a,b,c,d,e,f,g,h,i,j,k,l,m,n,o,p,q,r,s,t,u,v,w,x,y,z", 4, 0, 26);
            aboutDue("", 4, 0);
        });
        says("5: letters of its shortest BEGINNING", () -> {
            aboutDue(ANIMALS, 5, 0, 1, 2, 3, 1, 2);
            aboutDue("xa,yxa,a", 5, 0, 1, 1, 1);
            aboutDue("abcdefghij", 5, 0, 1, 2, 3, 4, 5, 6, 7, 8, 9, 10);
            NumberWords x = Made.told("ab,b");
            due("of ab and b", x.about(2, 5), 1);
            Say.to(x, "b").cut();
            due("of ab alone", x.about(2, 5), 2);
            aboutDue("", 5, 0);
        });
        says("7: how many BEGINNINGS it has", () -> {
            aboutDue(ANIMALS, 7, 1, 1, 1, 3, 1, 1);
            aboutDue("xab,yab,ab", 7, 1, 3, 3, 2);
            aboutDue("", 7, 1);
            NumberWords x = Made.told("ab,b,c,d");
            due("with d", x.about(2, 7), 4);
            Say.to(x, "d").cut();
            due("without d", x.about(2, 7), 3);
        });
        says("NONE without these", () -> {
            for (int what = 0; what < 8; what++) {
                for (int state : new int[] {6, 7, 1000, 1001, -1, MIN, MAX}) {
                    due("about(" + state + ", " + what + ")", Made.animals().about(state, what), NONE);
                }
            }
            for (int what : new int[] {8, 9, -1, -2, MIN, MAX}) {
                due("about(0, " + what + ")", Made.animals().about(0, what), NONE);
                due("about(0, " + what + ") without words", new NumberWords().about(0, what), NONE);
            }
            nothingHappens("about", Made::busy, x -> x.about(0, 4), 0);
        });
    }

    private void aboutLeft() {
        says("1: how many WORDS are left behind it", () -> {
            aboutDue(ANIMALS, 1, 4, 2, 2, 1, 2, 2);
            aboutDue("a,ab,abc", 1, 3, 3, 2, 1);
            aboutDue("", 1, 0);
            due("100", Made.full().about(0, 1), 100);
        });
        says("2: letters of the longest of what is left (-2: nothing is)", () -> {
            aboutDue(ANIMALS, 2, 3, 2, 1, 0, 2, 1);
            aboutDue("abcdefghij,b", 2, 10, 9, 8, 7, 6, 5, 4, 3, 2, 1, 0);
            aboutDue("ab,abcd,b", 2, 4, 3, 2, 1, 0);
            aboutDue("", 2, -2);
        });
        says("3: of the shortest (likewise)", () -> {
            aboutDue(ANIMALS, 3, 2, 2, 1, 0, 1, 0);
            aboutDue("abcdefghij", 3, 10, 9, 8, 7, 6, 5, 4, 3, 2, 1, 0);
            aboutDue("abcd,ab,abc", 3, 2, 1, 0, 0, 0);
            aboutDue("", 3, -2);
        });
        says("6: the greatest NUMBER in its REST (-2: it has none)", () -> {
            aboutDue(ANIMALS, 6, 5, 2, 2, 0, 5, 5);
            aboutDue("a=999999,b=0", 6, 999999, 0);
            aboutDue("a=9,ab=4,abc=6", 6, 5, 5, 2, 0);
            aboutDue("", 6, -2);
        });
    }

    // ---- asked for by what they are like

    private void rangeDue(NumberWords x, String text, int... wants) {
        for (int what = 0; what < 5; what++) {
            due("range(" + what + ") of " + text, Say.to(x, text).range(what), wants[what]);
        }
    }

    private void range() {
        promise(23);
        NumberWords x = Made.animals();
        says(EMPTY_THEN, () -> {
            tapeEmptyThen(y -> y.range(0), "car-do", "-", "z-a", "", "car", "Car-do", "x".repeat(400));
            tapeEmptyThen(y -> y.range(5), "car-do", "car");
            tapeEmptyThen(y -> y.range(2), "z-");
        });
        says("is LOW - HIGH (each letters, 10 at most, perhaps none; no blanks)", () -> {
            NumberWords y = Made.told("abcdefghij=4,bbbbbbbbbb=5");
            rangeDue(y, "abcdefghij-bbbbbbbbbb", 2, 9, 4, 5, 0);
            rangeDue(y, "-", 2, 9, 4, 5, 0);
            for (String text : List.of("", "car", "abcdefghijk-", "-abcdefghijk", "abcdefghijk-abcdefghijk", "car -do", "car- do",
                    " car-do", "car-do ", "car--do", "car-do-", "car=do", "Car-do", "car-d0", "car-do\0", "x".repeat(400))) {
                rangeDue(x, text, NONE, NONE, NONE, NONE, NONE);
            }
        });
        says("of WORDS not ahead of LOW", () -> {
            rangeDue(x, "cat-zzz", 3, 14, 2, 7, 1);
            rangeDue(x, "cas-zzz", 3, 14, 2, 7, 1);
            rangeDue(x, "catt-zzz", 2, 9, 2, 7, 2);
            rangeDue(x, "-zzz", 4, 17, 2, 7, 0);
        });
        says("and not behind HIGH", () -> {
            rangeDue(x, "a-do", 3, 10, 2, 5, 0);
            rangeDue(x, "a-dn", 2, 8, 3, 5, 0);
            rangeDue(x, "a-dof", 3, 10, 2, 5, 0);
            rangeDue(x, "-cat", 2, 8, 3, 5, 0);
            rangeDue(x, "do-do", 1, 2, 2, 2, 2);
        });
        says("(without HIGH: all from LOW on)", () -> {
            rangeDue(x, "cat-", 3, 14, 2, 7, 1);
            rangeDue(x, "-", 4, 17, 2, 7, 0);
            rangeDue(x, "dog-", 1, 7, 7, 7, 3);
        });
    }

    private void rangeRefused() {
        NumberWords x = Made.animals();
        says("what 0: how many", () -> {
            due("some", Say.to(x, "car-do").range(0), 3);
            due("none", Say.to(x, "d-c").range(0), 0);
            due("none from there on", Say.to(x, "e-").range(0), 0);
            due("none between", Say.to(x, "cb-d").range(0), 0);
            due("100", Say.to(Made.full(), "-").range(0), 100);
        });
        says("1: their NUMBERS together", () -> {
            due("some", Say.to(x, "car-do").range(1), 10);
            due("none", Say.to(x, "d-c").range(1), 0);
            NumberWords y = Made.full();
            y.raise(999999);
            due("of 100", Say.to(y, "-").range(1), 99999900);
        });
        says("2: the least", () -> {
            due("of some", Say.to(x, "car-do").range(2), 2);
            due("of the greatest", Say.to(Made.told("a=999999,b=999999"), "-").range(2), 999999);
        });
        says("3: the greatest", () -> {
            due("of some", Say.to(x, "car-do").range(3), 5);
            due("of 0", Say.to(Made.told("a,b"), "-").range(3), 0);
        });
        says("4: the RANK of the first", () -> {
            due("of some", Say.to(x, "cas-do").range(4), 1);
            due("of all", Say.to(x, "-").range(4), 0);
            due("of the last", Say.to(x, "dof-").range(4), 3);
        });
        says("(2 to 4: -2: there are none)", () -> {
            for (String text : List.of("d-c", "e-", "cb-d", "-a", "catt-cb", "zzzzzzzzzz-")) {
                for (int what = 2; what < 5; what++) {
                    due("range(" + what + ") of " + text, Say.to(x, text).range(what), -2);
                    due("range(" + what + ") of " + text + ", no words", Say.to(new NumberWords(), text).range(what), -2);
                }
            }
        });
        says("NONE for others", () -> {
            for (int what : new int[] {-1, 5, 6, -2, MIN, MAX}) {
                due("range(" + what + ")", Say.to(x, "a-z").range(what), NONE);
                due("range(" + what + ") of none", Say.to(x, "z-a").range(what), NONE);
            }
        });
    }

    private void near() {
        promise(24);
        says(EMPTY_THEN, () -> {
            tapeEmptyThen(x -> x.near(1, 0), "cat", "", "ca?", "xxxxxxxxxx", "xxxxxxxxxxx");
            tapeEmptyThen(x -> x.near(4, 0), "cat");
            tapeEmptyThen(x -> x.near(1, -2), "cat");
        });
        says("is letters (10 at most, perhaps none)", () -> {
            NumberWords x = Made.told("abcdefghij,abc");
            due("ten", Say.to(x, "abcdefghij").near(0, 0), 1);
            due("none", Say.to(x, "").near(3, 0), 0);
            none(y -> y.near(3, NONE), NO_LETTERS);
            none(y -> y.near(3, NONE), List.of("abcdefghijk", "x".repeat(400)));
        });
        says("of WORDS from which it is FAR by d (0 to 3) at most the k-th (0 the first), by RANKS", () -> {
            nearDue("cot", 0);
            nearDue("cat", 0, 1);
            nearDue("cot", 1, 1);
            nearDue("cot", 2, 0, 1, 2, 3);
            nearDue("", 1);
            nearDue("", 2, 2);
            nearDue("", 3, 0, 1, 2, 3);
            nearDue("catss", 2, 1);
            nearDue("catss", 3, 0, 1);
            nearDue("zzzzzzzzzz", 3);
            for (int d : new int[] {-1, 4, -2, MIN, MAX}) {
                due("near(" + d + ")", Say.to(Made.animals(), "cat").near(d, 0), NONE);
                due("how many near(" + d + ")", Say.to(Made.animals(), "cat").near(d, NONE), NONE);
            }
        });
        says("k NONE: how many", () -> {
            due("two", Say.to(Made.animals(), "cap").near(1, NONE), 2);
            due("none", Say.to(Made.animals(), "zzz").near(1, NONE), 0);
            due("without words", Say.to(new NumberWords(), "a").near(3, NONE), 0);
            due("100", Say.to(Made.full(), "").near(2, NONE), 100);
        });
        says("-2: there are not so many", () -> {
            for (int k : new int[] {2, 3, 100, MAX}) {
                due("near(1, " + k + ") of two", Say.to(Made.animals(), "cap").near(1, k), -2);
            }
            due("near(3, 0) without words", Say.to(new NumberWords(), "a").near(3, 0), -2);
        });
        says("NONE for others (k below NONE)", () -> {
            for (int k : new int[] {-2, -3, MIN}) {
                due("near(1, " + k + ")", Say.to(Made.animals(), "cat").near(1, k), NONE);
                due("near(1, " + k + ") of none", Say.to(Made.animals(), "zzz").near(1, k), NONE);
            }
        });
    }

    private void nearDue(String text, int d, int... ranks) {
        NumberWords x = Made.animals();
        due("how many near " + text + " by " + d, Say.to(x, text).near(d, NONE), ranks.length);
        for (int k = 0; k <= ranks.length; k++) {
            due("near " + text + " by " + d + ", " + k, Say.to(x, text).near(d, k), k < ranks.length ? ranks[k] : -2);
        }
    }

    private void like() {
        promise(25);
        says(EMPTY_THEN, () -> {
            tapeEmptyThen(x -> x.like(0), "c*", "?", "", "c.t", "*".repeat(12), "*".repeat(13));
            tapeEmptyThen(x -> x.like(-2), "c*");
        });
        says("is a PATTERN: of WORDS that are like it the k-th, by RANKS", () -> {
            likeDue("cat", 1);
            likeDue("ca?", 0, 1);
            likeDue("*o*", 2, 3);
            likeDue("*", 0, 1, 2, 3);
            likeDue("??", 2);
            likeDue("ca");
            likeDue("*".repeat(12), 0, 1, 2, 3);
            likeDue("???" + "*".repeat(9), 0, 1, 3);
        });
        says("k NONE: how many", () -> {
            due("two", Say.to(Made.animals(), "ca?").like(NONE), 2);
            due("none", Say.to(Made.animals(), "z*").like(NONE), 0);
            due("without words", Say.to(new NumberWords(), "*").like(NONE), 0);
            due("100", Say.to(Made.full(), "*").like(NONE), 100);
        });
        says("-2: there are not so many", () -> {
            for (int k : new int[] {2, 3, 100, MAX}) {
                due("like(" + k + ") of two", Say.to(Made.animals(), "ca?").like(k), -2);
            }
            due("like(0) without words", Say.to(new NumberWords(), "*").like(0), -2);
        });
        says("NONE for others (also without a sign)", () -> {
            for (String text : List.of("", "c.t", "C*", " *", "* ", "c-t", "+", "c\0", "`", "{", "*".repeat(13), "abcdefghijklm",
                    "x".repeat(400))) {
                due("like " + text, Say.to(Made.animals(), text).like(NONE), NONE);
                due("the first like " + text, Say.to(Made.animals(), text).like(0), NONE);
            }
            for (int k : new int[] {-2, -3, MIN}) {
                due("like(" + k + ")", Say.to(Made.animals(), "*").like(k), NONE);
            }
        });
    }

    private void likeDue(String text, int... ranks) {
        NumberWords x = Made.animals();
        due("how many like " + text, Say.to(x, text).like(NONE), ranks.length);
        for (int k = 0; k <= ranks.length; k++) {
            due("like " + text + ", " + k, Say.to(x, text).like(k), k < ranks.length ? ranks[k] : -2);
        }
    }

    private void best() {
        promise(26);
        NumberWords x = Made.told("a=5,ab=9,abc=5,b=9,ba=1,bb=1,abcdefghij=7");
        says(EMPTY_THEN, () -> {
            tapeEmptyThen(y -> y.best(0), "c", "", "Cat", "xxxxxxxxxx", "xxxxxxxxxxx");
            tapeEmptyThen(y -> y.best(-1), "c");
        });
        says("is letters (10 at most, perhaps none)", () -> {
            due("ten", Say.to(x, "abcdefghij").best(0), 3);
            due("none", Say.to(x, "").best(0), 1);
            none(y -> y.best(0), NO_LETTERS);
            none(y -> y.best(0), List.of("abcdefghijk", "x".repeat(400)));
        });
        says("the k-th (0 the first) BEST by it: its RANK", () -> {
            int[] all = {1, 4, 3, 0, 2, 5, 6};
            for (int k = 0; k < all.length; k++) {
                due("best(" + k + ")", Say.to(x, "").best(k), all[k]);
            }
            int[] ofA = {1, 3, 0, 2};
            for (int k = 0; k < ofA.length; k++) {
                due("best(" + k + ") by a", Say.to(x, "a").best(k), ofA[k]);
            }
            due("best(0) by ba", Say.to(x, "ba").best(0), 5);
            due("the last of 100", Say.to(Made.full(), "").best(99), 99);
        });
        says("-2: there are not so many", () -> {
            for (int k : new int[] {4, 5, 100, MAX}) {
                due("best(" + k + ") by a", Say.to(x, "a").best(k), -2);
            }
            for (String text : List.of("c", "aa", "abd", "abcdefghik", "zzzzzzzzzz")) {
                due("best(0) by " + text, Say.to(x, text).best(0), -2);
            }
            due("without words", Say.to(new NumberWords(), "").best(0), -2);
        });
        says("NONE for others", () -> {
            for (int k : new int[] {NONE, -2, MIN}) {
                due("best(" + k + ")", Say.to(x, "a").best(k), NONE);
                due("best(" + k + ") of none", Say.to(x, "z").best(k), NONE);
            }
        });
    }

    private void pieces() {
        promise(27);
        NumberWords x = Made.told("cat=5,car=3,dog=7,do=2,gs=4,s=1,dogs=1");
        says(EMPTY_THEN, () -> {
            tapeEmptyThen(y -> y.pieces(0), "catdog", "zz", "", "Cat", "x".repeat(60), "x".repeat(61));
            tapeEmptyThen(y -> y.pieces(2), "zz");
            tapeEmptyThen(y -> y.pieces(5), "catdog");
        });
        says("is a text of letters (1 to 60): its PIECES what 0: LONGEST: how many, till the text ends or none stands there", () -> {
            due("to the end", Say.to(x, "catdogdo").pieces(0), 3);
            due("dogs, not dog and s", Say.to(x, "dogs").pieces(0), 1);
            due("till none does", Say.to(x, "dogatdog").pieces(0), 1);
            due("none", Say.to(x, "xdog").pieces(0), 0);
            due("one letter", Say.to(x, "s").pieces(0), 1);
            due("60 letters", Say.to(x, "s".repeat(60)).pieces(0), 60);
        });
        says("1: at which letter these end (0 the first; as many as there are: at the end)", () -> {
            due("at the end", Say.to(x, "catdogdo").pieces(1), 8);
            due("dogs", Say.to(x, "dogs").pieces(1), 4);
            due("till none does", Say.to(x, "dogatdog").pieces(1), 3);
            due("none", Say.to(x, "xdog").pieces(1), 0);
            due("60 letters", Say.to(x, "s".repeat(60)).pieces(1), 60);
            due("a word that goes on behind the end", Say.to(x, "catca").pieces(1), 3);
        });
        says("2: FEWEST (-2: there are none)", () -> {
            due("dogs", Say.to(x, "dogs").pieces(2), 1);
            due("dogsdogs", Say.to(x, "dogsdogs").pieces(2), 2);
            due("60", Say.to(x, "s".repeat(60)).pieces(2), 60);
            due("where LONGEST fails", Say.to(Made.told("ab,abc,cd"), "abcd").pieces(2), 2);
            for (String text : List.of("doga", "xdog", "catca", "z", "z".repeat(60))) {
                due(text, Say.to(x, text).pieces(2), -2);
            }
            due("without words", Say.to(new NumberWords(), "a").pieces(2), -2);
        });
        says("3: BEST: the sum (-2)", () -> {
            due("do and gs, dog and s, dogs", Say.to(x, "dogs").pieces(3), 8);
            due("catdogdo", Say.to(x, "catdogdo").pieces(3), 14);
            due("of nothing but 0", Say.to(Made.told("a"), "aaa").pieces(3), 0);
            due("the greatest", Say.to(Made.told("a=999999"), "a".repeat(60)).pieces(3), 59999940);
            for (String text : List.of("doga", "xdog", "catca", "z")) {
                due(text, Say.to(x, text).pieces(3), -2);
            }
            due("without words", Say.to(new NumberWords(), "a").pieces(3), -2);
        });
        says("4: WAYS, of 1000003 the rest", () -> {
            due("dogs", Say.to(x, "dogs").pieces(4), 3);
            due("dogsdogs", Say.to(x, "dogsdogs").pieces(4), 9);
            due("none", Say.to(x, "doga").pieces(4), 0);
            due("without words", Say.to(new NumberWords(), "a").pieces(4), 0);
            NumberWords y = Made.told("a,aa");
            long[] ways = new long[61];
            ways[0] = 1;
            for (int n = 1; n <= 60; n++) {
                ways[n] = ways[n - 1] + (n > 1 ? ways[n - 2] : 0);
                due(n + " letters, " + ways[n] + " ways", Say.to(y, "a".repeat(n)).pieces(4), (int) (ways[n] % 1000003));
            }
        });
        says("NONE for others", () -> {
            for (String text : List.of("", "s".repeat(61), "s".repeat(400), "do g", "Dog", "dog-", "do?", "\0")) {
                for (int what = 0; what < 5; what++) {
                    due("pieces(" + what + ") of \"" + text + "\"", Say.to(x, text).pieces(what), NONE);
                }
            }
            for (int what : new int[] {-1, 5, 6, -2, MIN, MAX}) {
                due("pieces(" + what + ")", Say.to(x, "dog").pieces(what), NONE);
            }
        });
    }

    // ---- packed

    private void pack() {
        promise(28);
        says("PACKED: how many bytes the TAPE has then", () -> {
            NumberWords x = Say.to(Made.animals(), "something that is longer than what it is packed to");
            due("animals", x.pack(), 31);
            due("bytes", x.count(10), 31);
            due("the first", x.octet(0), 6);
            due("the last", x.octet(30), 3);
            due("acts", x.count(8), 1);
            due("no words", new NumberWords().pack(), 3);
            NumberWords most = Made.ofBytes(79);
            due("400", most.pack(), 400);
            due("bytes of 400", most.count(10), 400);
            due("and back", most.unpack(), 100);
        });
        says("-2, and nothing happens: more than 400", () -> {
            nothingHappens("401", () -> Say.to(Made.ofBytes(80), "abc"), NumberWords::pack, -2);
            nothingHappens("402", () -> Say.to(Made.ofBytes(81), "x".repeat(400)), NumberWords::pack, -2);
            NumberWords x = Made.ofBytes(80);
            x.pack();
            Say.put(x, "ab", 0);
            due("400 then", x.pack(), 400);
        });
    }

    private static final int[] TWO_WORDS = {3, 0, 2, 1, 0, 1, 3, 5, 2, 0, 2, 1, 0};

    private void unpack() {
        promise(29);
        says(EMPTY_THEN, () -> {
            NumberWords x = new NumberWords();
            Say.to(x, TWO_WORDS).unpack();
            due("bytes", x.count(10), 0);
            due("feed then", x.feed(0, 0, 0, 0, 0), 20);
            x.unpack();
            due("bytes behind a fault", x.count(10), 0);
            x.unpack();
            due("bytes behind none", x.count(10), 0);
        });
        says("is UNPACKED: how many WORDS", () -> {
            NumberWords x = Made.busy();
            due("two", Say.to(x, TWO_WORDS).unpack(), 2);
            words("unpacked", x, "a=5 ab=0");
            due("states", x.count(1), 3);
            due("acts", x.count(8), 4);
            due("none", Say.to(x, 1, 0, 0).unpack(), 0);
            words("unpacked none", x, "");
            NumberWords y = Made.full();
            y.keep(0);
            y.pack();
            due("100", y.unpack(), 100);
            due("the same", y.same(0), 1);
            for (int i = 0; i < 30; i++) {
                y.pack();
                due("100 again", y.unpack(), 100);
            }
            Say.to(y, 1).unpack();
            due("behind one with a fault", Say.to(y, TWO_WORDS).unpack(), 2);
            words("behind one with a fault", y, "a=5 ab=0");
        });
        says("-2 - its FAULT, and but for the TAPE nothing happens", () -> {
            tapeAloneGoes("", Made::busy, NumberWords::unpack, -3);
            tapeAloneGoes("\3\0\2", Made::busy, NumberWords::unpack, -2 - (8 * 3 + 1));
            tapeAloneGoes("\0", Made::busy, NumberWords::unpack, -2 - 2);
            tapeAloneGoes("\2\0\2\1\0\2\1\0", Made::busy, NumberWords::unpack, -2 - (8 * 5 + 2));
            tapeAloneGoes("\1\0\0\0", Made::busy, NumberWords::unpack, -2 - (8 * 3 + 3));
            tapeAloneGoes("\1\0\2\1\0\0", Made::busy, NumberWords::unpack, -2 - (8 * 6 + 4));
            tapeAloneGoes("\3\0\4\1\0\1\2\0\2\1\0\1\0", Made::busy, NumberWords::unpack, -2 - (8 * 13 + 4));
            tapeAloneGoes("\1\0\0" + "\0".repeat(397), Made::busy, NumberWords::unpack, -2 - (8 * 3 + 3));
        });
    }

    // ---- counts

    private void countDue(int what, NumberWords x, int want) {
        due("count(" + what + ")", x.count(what), want);
    }

    private void count() {
        promise(30);
        says("What 0: WORDS", () -> {
            countDue(0, new NumberWords(), 0);
            countDue(0, Made.busy(), 4);
            countDue(0, Made.full(), 100);
        });
        says("1: STATES", () -> {
            countDue(1, new NumberWords(), 1);
            countDue(1, Made.animals(), 6);
            countDue(1, Made.told("a=1,b=2"), 2);
            countDue(1, Made.full(), 4);
        });
        says("2: ARCS", () -> {
            countDue(2, new NumberWords(), 0);
            countDue(2, Made.animals(), 7);
            countDue(2, Made.told("xab,yab,ab"), 5);
            countDue(2, Made.full(), 4 + 26 + 22);
        });
        says("3: START", () -> {
            countDue(3, new NumberWords(), 0);
            countDue(3, Made.animals(), 2);
            countDue(3, Made.told("a=999999"), 999999);
        });
        says("4: all NUMBERS together", () -> {
            countDue(4, new NumberWords(), 0);
            countDue(4, Made.animals(), 17);
            NumberWords x = Made.full();
            x.raise(999999);
            countDue(4, x, 99999900);
        });
        says("5: WORDS of the BUILDER", () -> {
            countDue(5, Made.animals(), 0);
            countDue(5, Made.busy(), 4);
            countDue(5, Made.builderOf(100), 100);
        });
        says("6: its OPEN STATES (0 without WORDS)", () -> {
            countDue(6, Made.animals(), 0);
            countDue(6, Made.busy(), 2);
            countDue(6, Made.builderOf(100), 3);
            NumberWords x = new NumberWords();
            Say.append(x, "abcdefghij", 1);
            countDue(6, x, 11);
            x.finish();
            countDue(6, x, 0);
        });
    }

    private void countMore() {
        says("7: its CLOSED ones", () -> {
            countDue(7, Made.animals(), 0);
            countDue(7, Made.busy(), 2);
            NumberWords x = Made.builderOf(1);
            countDue(7, x, 0);
            Say.append(x, "ab", 0);
            countDue(7, x, 1);
            Say.append(x, "b", 0);
            countDue(7, x, 2);
            x.finish();
            countDue(7, x, 0);
        });
        says("8: ACTS that can be UNDONE", () -> {
            NumberWords x = new NumberWords();
            countDue(8, x, 0);
            for (int i = 1; i <= 13; i++) {
                Say.put(x, "a", i);
                countDue(8, x, Math.min(i, 12));
            }
            x.undo();
            countDue(8, x, 11);
        });
        says("9: SHELVES on which something is KEPT, as bits", () -> {
            for (int shelves = 0; shelves < 8; shelves++) {
                NumberWords x = Made.animals();
                for (int shelf = 0; shelf < 3; shelf++) {
                    if ((shelves >> shelf & 1) == 1) {
                        x.keep(shelf);
                    }
                }
                countDue(9, x, shelves);
            }
        });
        says("10: bytes of the TAPE", () -> {
            countDue(10, new NumberWords(), 0);
            countDue(10, Say.to(new NumberWords(), "abc"), 3);
            countDue(10, Say.to(new NumberWords(), "x".repeat(400)), 400);
        });
        says("11: BEGINNINGS", () -> {
            countDue(11, new NumberWords(), 1);
            countDue(11, Made.animals(), 8);
            countDue(11, Made.told("abcdefghij,bcdefghijk,ab"), 21);
            countDue(11, Made.full(), 105);
        });
        says("NONE for others", () -> {
            for (int what : new int[] {-1, 12, 13, -2, MIN, MAX}) {
                nothingHappens("count(" + what + ")", Made::busy, x -> x.count(what), NONE);
            }
        });
    }
}
