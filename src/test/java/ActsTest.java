import java.util.List;

/** Promises 1 to 14 (the tape, acts, what is kept), sentence by sentence, each with a test of its own. */
public final class ActsTest extends Sentences {
    private static final int MIN = Integer.MIN_VALUE;
    private static final int MAX = Integer.MAX_VALUE;
    private static final List<String> NO_WORDS = List.of("", "abcdefghijk", "Cat", "ca t", " cat", "cat ", "cat=1", "ca?", "ca\0",
            "c\u00e1t", "`", "{", "7", "x".repeat(400));

    public static void main(String[] args) {
        ActsTest test = new ActsTest();
        test.newObject();
        test.feed();
        test.end();
        test.octet();
        test.list();
        test.put();
        test.cut();
        test.raise();
        test.append();
        test.finish();
        test.join();
        test.joinRefused();
        test.undo();
        test.keep();
        test.same();
        test.close();
    }

    private void newObject() {
        promise(1);
        says("No WORDS", () -> {
            NumberWords x = new NumberWords();
            int[] wants = {0, 1, 0, 0, 0, 0, 0, 0, 0, 0, 0, 1};
            for (int what = 0; what < wants.length; what++) {
                due("count(" + what + ")", x.count(what), wants[what]);
            }
            due("value(0)", x.value(0), NONE);
            due("word(0, NONE)", x.word(0, NONE), NONE);
            due("finish", x.finish(), NONE);
            due("undo", x.undo(), NONE);
            for (int shelf = 0; shelf < 3; shelf++) {
                due("same(" + shelf + ")", x.same(shelf), -2);
            }
            Say.put(x, "a", 1);
            due("a new one beside another", new NumberWords().count(0), 0);
        });
    }

    // ---- the tape

    private void feed() {
        promise(2);
        says("Twenty bytes come behind the TAPE", () -> {
            NumberWords x = Say.to(new NumberWords(), 11, 12, 13);
            x.feed(0x01020304, 0x05060708, 0x090a0b0c, 0x0d0e0f10, 0x11121314);
            bytes("three and twenty", x, 11, 12, 13, 1, 2, 3, 4, 5, 6, 7, 8, 9, 10, 11, 12, 13, 14, 15, 16, 17, 18, 19, 20);
        });
        says("of each number the highest first", () -> {
            NumberWords x = new NumberWords();
            x.feed(0x01020384, -1, MIN, MAX, 0xfe);
            bytes("fed", x, 1, 2, 3, 132, 255, 255, 255, 255, 128, 0, 0, 0, 127, 255, 255, 255, 0, 0, 0, 254);
        });
        says("how many it has", () -> {
            NumberWords x = new NumberWords();
            for (int i = 1; i <= 20; i++) {
                due("feed", x.feed(i, 0, 0, 0, 0), 20 * i);
                due("bytes", x.count(10), 20 * i);
            }
            x.end(7);
            due("feed behind seven", x.feed(0, 0, 0, 0, 0), 27);
        });
        says("NONE, and none comes, if it would have more than 400", () -> {
            for (int bytes : new int[] {381, 399, 400}) {
                nothingHappens("feed behind " + bytes, () -> Say.to(Made.busy(), "x".repeat(bytes)), x -> x.feed(1, 2, 3, 4, 5),
                        NONE);
            }
            NumberWords x = Say.to(new NumberWords(), "x".repeat(380));
            due("feed behind 380", x.feed(0, 0, 0, 0, 9), 400);
            due("the last byte", x.octet(399), 9);
            due("feed behind 400", x.feed(0, 0, 0, 0, 0), NONE);
            x.end(0);
            due("feed of the emptied", x.feed(0, 0, 0, 0, 0), 20);
        });
    }

    private void end() {
        promise(3);
        says("The TAPE has its first n bytes alone: n", () -> {
            NumberWords x = Say.to(new NumberWords(), 1, 2, 3, 4, 5);
            due("end(5)", x.end(5), 5);
            bytes("all", x, 1, 2, 3, 4, 5);
            due("end(3)", x.end(3), 3);
            bytes("three", x, 1, 2, 3);
            due("end(0)", x.end(0), 0);
            bytes("none", x);
            due("end(0) of nothing", x.end(0), 0);
            Say.to(x, "x".repeat(400));
            due("end(400)", x.end(400), 400);
            due("end(399)", x.end(399), 399);
            due("bytes", x.count(10), 399);
        });
        says("NONE, and nothing happens, if it has not so many", () -> {
            for (int n : new int[] {6, 7, 20, 400, 401, MAX}) {
                nothingHappens("end(" + n + ") of five", Made::busy, x -> x.end(n), NONE);
            }
            due("end(1) of nothing", new NumberWords().end(1), NONE);
            due("what was cut off is not back", Say.to(new NumberWords(), 1, 2, 3).end(2), 2);
            NumberWords x = Say.to(new NumberWords(), 1, 2, 3);
            x.end(2);
            due("end(3) of two", x.end(3), NONE);
        });
        says("or n is below 0", () -> {
            for (int n : new int[] {-1, -2, MIN}) {
                nothingHappens("end(" + n + ")", Made::busy, x -> x.end(n), NONE);
            }
        });
    }

    private void octet() {
        promise(4);
        says("A byte of the TAPE (0 to 255)", () -> {
            NumberWords x = Say.to(new NumberWords(), 255, 0, 128, 127, 1);
            int[] wants = {255, 0, 128, 127, 1};
            for (int k = 0; k < wants.length; k++) {
                due("octet(" + k + ")", x.octet(k), wants[k]);
            }
            due("the 400th", Say.to(x, "x".repeat(400)).octet(399), 'x');
        });
        says("NONE: there is none", () -> {
            for (int k : new int[] {5, 6, 399, 400, 401, MAX, -1, MIN}) {
                nothingHappens("octet(" + k + ") of five", Made::busy, x -> x.octet(k), NONE);
            }
            due("octet(0) of nothing", new NumberWords().octet(0), NONE);
            due("octet(400) of 400", Say.to(new NumberWords(), "x".repeat(400)).octet(400), NONE);
        });
    }

    // ---- acts

    private void list() {
        promise(5);
        says("The TAPE, which is empty then", () -> {
            NumberWords x = new NumberWords();
            for (String text : List.of("a=1,b=2", "a,,b", "", "a=")) {
                Say.to(x, text).list();
                due("bytes behind \"" + text + "\"", x.count(10), 0);
                due("feed then", x.feed(0, 0, 0, 0, 0), 20);
            }
        });
        says("tells a LIST: PUT: how many WORDS there are", () -> {
            NumberWords x = new NumberWords();
            due("two", Say.to(x, "b=2,a=1").list(), 2);
            due("one new, one there", Say.to(x, "c=3,b=9").list(), 3);
            words("put", x, "a=1 b=9 c=3");
            due("as they are", Say.to(x, "b=9").list(), 3);
            due("acts", x.count(8), 3);
            due("97 more", Say.to(x, Made.pairs(0, 97)).list(), 100);
            due("of 100", Say.to(x, "a=7,aa=5").list(), 100);
            due("a is 7", x.value(0), 7);
            NumberWords y = Made.told("b=2");
            y.undo();
            Say.to(y, "a=1").list();
            words("beside nothing that was undone", y, "a=1");
        });
        says("-2 - its FAULT, and but for the TAPE nothing happens", () -> {
            tapeAloneGoes("", Made::busy, NumberWords::list, -3);
            tapeAloneGoes("new=1,cat=9,", Made::busy, NumberWords::list, -2 - (8 * 12 + 1));
            tapeAloneGoes("new=1,abcdefghijk", Made::busy, NumberWords::list, -2 - (8 * 6 + 2));
            tapeAloneGoes("new=1,cat=1000000", Made::busy, NumberWords::list, -2 - (8 * 10 + 2));
            tapeAloneGoes("new=1,cat=9,new", Made::busy, NumberWords::list, -2 - (8 * 12 + 3));
            tapeAloneGoes("aa=9,zz=9", Made::full, NumberWords::list, -2 - (8 * 5 + 4));
        });
    }

    private void put() {
        promise(6);
        says("The TAPE, which is empty then", () -> {
            NumberWords x = new NumberWords();
            for (String text : List.of("cat", "cat", "cats", "", "Cat", "x".repeat(400))) {
                Say.put(x, text, 5);
                due("bytes behind \"" + text + "\"", x.count(10), 0);
            }
            Say.put(x, "cow", -1);
            due("bytes behind another NUMBER", x.count(10), 0);
            due("feed then", x.feed(0, 0, 0, 0, 0), 20);
        });
        says("is a WORD (letters alone): PUT with a NUMBER: how many STATES", () -> {
            NumberWords x = new NumberWords();
            due("cat=5", Say.put(x, "cat", 5), 4);
            due("cut=5 shares its end", Say.put(x, "cut", 5), 4);
            due("dog=0", Say.put(x, "dog", 0), 6);
            due("cat=6: ca and cu end at one", Say.put(x, "cat", 6), 6);
            due("a=999999", Say.put(x, "a", 999999), 6);
            due("abcdefghij=0", Say.put(x, "abcdefghij", 0), 15);
            words("put", x, "a=999999 abcdefghij=0 cat=6 cut=5 dog=0");
            due("as told", x.count(1), 15);
            due("blanks are no letters", Say.put(x, "cow ", 1), NONE);
            NumberWords y = Made.told("b=2");
            y.undo();
            Say.put(y, "a", 1);
            words("beside nothing that was undone", y, "a=1");
        });
        says("-2, and nothing happens: it is there with that NUMBER", () -> {
            tapeAloneGoes("cat", Made::busy, x -> x.put(5), -2);
            tapeAloneGoes("ox", Made::busy, x -> x.put(9), -2);
            tapeAloneGoes("dv", Made::full, x -> x.put(0), -2);
            due("with another", Say.put(Made.busy(), "cat", 4) > 0 ? 1 : 0, 1);
        });
        says("NONE, and nothing happens (but for the TAPE), if it is no WORD", () -> {
            for (String text : NO_WORDS) {
                tapeAloneGoes(text, Made::busy, x -> x.put(5), NONE);
            }
        });
        says("for another NUMBER", () -> {
            for (int number : new int[] {-1, 1000000, MIN, MAX, -2, 1000001}) {
                tapeAloneGoes("cow", Made::busy, x -> x.put(number), NONE);
                tapeAloneGoes("cat", Made::busy, x -> x.put(number), NONE);
            }
            due("999999", Say.put(new NumberWords(), "a", 999999), 2);
            due("0", Say.put(new NumberWords(), "a", 0), 2);
        });
        says("or if there would be more than 100", () -> {
            tapeAloneGoes("zz", Made::full, x -> x.put(5), NONE);
            tapeAloneGoes("a", Made::full, x -> x.put(5), NONE);
            NumberWords x = Made.full();
            due("one of the 100", Say.put(x, "dv", 5) > 0 ? 1 : 0, 1);
            due("its number", x.value(99), 5);
            Say.to(x, "aa").cut();
            due("the 100th again", Say.put(x, "zz", 5) > 0 ? 1 : 0, 1);
            due("words", x.count(0), 100);
        });
    }

    private void cut() {
        promise(7);
        says("The TAPE, which is empty then", () -> {
            NumberWords x = Made.animals();
            for (String text : List.of("cat", "cat", "ca", "", "Cat", "x".repeat(400))) {
                Say.to(x, text).cut();
                due("bytes behind \"" + text + "\"", x.count(10), 0);
            }
        });
        says("is a WORD: CUT: how many STATES", () -> {
            NumberWords x = Made.animals();
            due("do", Say.to(x, "do").cut(), 6);
            due("cat", Say.to(x, "cat").cut(), 6);
            due("dog", Say.to(x, "dog").cut(), 4);
            words("car is left", x, "car=3");
            due("car", Say.to(x, "car").cut(), 1);
            due("words", x.count(0), 0);
            NumberWords y = Made.told("a=1,ab=2,abc=3");
            due("ab, in the midst", Say.to(y, "ab").cut(), 4);
            words("a and abc are left", y, "a=1 abc=3");
            NumberWords z = Made.full();
            Say.to(z, "dv").cut();
            due("the last of 100", z.count(0), 99);
            NumberWords w = Made.told("a=1,b=2,c=3");
            Say.to(w, "a").cut();
            w.undo();
            Say.to(w, "b").cut();
            words("b in place of a", w, "a=1 c=3");
        });
        says("NONE, and nothing happens (but for the TAPE), if it is not there", () -> {
            for (String text : List.of("ca", "cats", "do", "a", "zebra", "abcdefghij")) {
                tapeAloneGoes(text, Made::busy, NumberWords::cut, NONE);
            }
            for (String text : NO_WORDS) {
                tapeAloneGoes(text, Made::busy, NumberWords::cut, NONE);
            }
            due("without words", Say.to(new NumberWords(), "a").cut(), NONE);
        });
    }

    private void raise() {
        promise(8);
        says("RAISED by d", () -> {
            NumberWords x = Made.told("a=3,ab=0,b=7");
            x.raise(1);
            words("by 1", x, "a=4 ab=1 b=8");
            x.raise(999991);
            words("by 999991", x, "a=999995 ab=999992 b=999999");
            due("acts", x.count(8), 3);
        });
        says("(below 0, too)", () -> {
            NumberWords x = Made.told("a=999999,b=999998");
            x.raise(-1);
            words("by -1", x, "a=999998 b=999997");
            x.raise(-999997);
            words("by -999997", x, "a=1 b=0");
        });
        says("START then", () -> {
            NumberWords x = Made.told("a=3,b=2,c=9");
            due("raise(4)", x.raise(4), 6);
            due("START", x.count(3), 6);
            due("raise(-6)", x.raise(-6), 0);
            due("raise(999992)", x.raise(999992), 999992);
        });
        says("NONE, and nothing happens, without WORDS", () -> {
            for (int d : new int[] {1, -1, 0, 999999, MAX}) {
                nothingHappens("raise(" + d + ")", NumberWords::new, x -> x.raise(d), NONE);
            }
        });
        says("if d is 0", () -> {
            nothingHappens("raise(0)", Made::busy, x -> x.raise(0), NONE);
            nothingHappens("raise(0)", () -> Made.told("a"), x -> x.raise(0), NONE);
        });
        says("or a NUMBER would be below 0", () -> {
            for (int d : new int[] {-4, -5, -1000000, MIN, MIN + 1}) {
                nothingHappens("raise(" + d + ") of 3", Made::busy, x -> x.raise(d), NONE);
            }
            due("raise(-3) of 3", Made.busy().raise(-3), 0);
            nothingHappens("raise(-1) of the last", () -> Made.told("a=5,b=0"), x -> x.raise(-1), NONE);
        });
        says("or above 999999", () -> {
            for (int d : new int[] {999991, 999992, 1000000, MAX, MAX - 9}) {
                nothingHappens("raise(" + d + ") of 9", Made::busy, x -> x.raise(d), NONE);
            }
            due("raise(999990) of 9", Made.busy().raise(999990), 999993);
            nothingHappens("raise(1) of the last", () -> Made.told("a=5,b=999999"), x -> x.raise(1), NONE);
        });
    }

    private void append() {
        promise(9);
        says("The TAPE, which is empty then", () -> {
            NumberWords x = new NumberWords();
            for (String text : List.of("cat", "cat", "cap", "", "Cat", "x".repeat(400))) {
                Say.append(x, text, 5);
                due("bytes behind \"" + text + "\"", x.count(10), 0);
            }
            Say.append(x, "cow", -1);
            due("bytes behind another NUMBER", x.count(10), 0);
        });
        says("is a WORD: APPENDED with a NUMBER: how many STATES the BUILDER has, OPEN and CLOSED", () -> {
            NumberWords x = Made.animals();
            due("ab", Say.append(x, "ab", 4), 3);
            due("b", Say.append(x, "b", 0), 4);
            due("ba", Say.append(x, "ba", 999999), 5);
            due("cb", Say.append(x, "cb", 1), 6);
            due("d: cb is closed as ab is", Say.append(x, "d", 1), 5);
            due("dabcdefghi", Say.append(x, "dabcdefghi", 1), 14);
            due("words", x.count(5), 6);
            words("the machine has its own", x, "car=3 cat=5 do=2 dog=7");
            due("acts", x.count(8), 1);
            x.finish();
            words("finished", x, "ab=4 b=0 ba=999999 cb=1 d=1 dabcdefghi=1");
        });
        says("-2, and nothing happens: it does not stand behind the last one", () -> {
            for (String text : List.of("d", "c", "cz", "czzzzzzzzz", "a", "cb", "ab")) {
                tapeAloneGoes(text, Made::busy, x -> x.append(1), -2);
            }
            due("da", Say.append(Made.busy(), "da", 1), 5);
            due("e", Say.append(Made.busy(), "e", 1), 4);
            tapeAloneGoes("aa", () -> Made.builderOf(99), x -> x.append(1), -2);
            due("any is behind none", Say.append(new NumberWords(), "a", 1), 2);
        });
        says("NONE, and nothing happens (but for the TAPE), if it is no WORD", () -> {
            for (String text : NO_WORDS) {
                tapeAloneGoes(text, Made::busy, x -> x.append(5), NONE);
            }
            for (String text : List.of("eeeeeeeeeee", "e1", "e ")) {
                tapeAloneGoes(text, Made::busy, x -> x.append(5), NONE);
            }
        });
        says("for another NUMBER", () -> {
            for (int number : new int[] {-1, 1000000, MIN, MAX, -2}) {
                tapeAloneGoes("e", Made::busy, x -> x.append(number), NONE);
                tapeAloneGoes("a", Made::busy, x -> x.append(number), NONE);
            }
            due("999999", Say.append(new NumberWords(), "a", 999999), 2);
            due("0", Say.append(new NumberWords(), "a", 0), 2);
        });
        says("or if there would be more than 100", () -> {
            for (String text : List.of("zz", "dw", "dv", "aa", "a")) {
                tapeAloneGoes(text, () -> Made.builderOf(100), x -> x.append(5), NONE);
            }
            NumberWords x = Made.builderOf(99);
            due("the 100th", Say.append(x, "dv", 5) > 0 ? 1 : 0, 1);
            due("words", x.count(5), 100);
            x.finish();
            due("finished", x.count(0), 100);
            due("one more then", Say.append(x, "a", 5), 2);
        });
    }

    private void finish() {
        promise(10);
        says("FINISHED: how many STATES", () -> {
            NumberWords x = Made.busy();
            due("ab=4 b=4 cb=1 d=1", x.finish(), 3);
            due("states", x.count(1), 3);
            words("finished", x, "ab=4 b=4 cb=1 d=1");
            due("words of the builder", x.count(5), 0);
            NumberWords y = Made.builderOf(1);
            due("aa", y.finish(), 3);
        });
        says("NONE, and nothing happens, if the BUILDER has no WORDS", () -> {
            nothingHappens("finish", Made::animals, NumberWords::finish, NONE);
            nothingHappens("finish of a new object", NumberWords::new, NumberWords::finish, NONE);
            nothingHappens("finish again", () -> {
                NumberWords x = Made.busy();
                x.finish();
                return x;
            }, NumberWords::finish, NONE);
        });
    }

    private void join() {
        promise(11);
        says("MERGED (how 0)", () -> {
            NumberWords x = Made.joinable(0);
            due("join", x.join(0, 0, 0), 6);
            words("merged", x, "a=1 ab=2 b=14 bc=7 c=3 d=6");
        });
        says("MET (1)", () -> {
            NumberWords x = Made.joinable(0);
            due("join", x.join(0, 1, 0), 1);
            words("met", x, "b=14");
        });
        says("LESS (2; by RULE 3 alone)", () -> {
            for (int rule : new int[] {0, 1, 2, 4, 5, -1}) {
                nothingHappens("less by " + rule, () -> Made.joinable(0), x -> x.join(0, 2, rule), NONE);
            }
            NumberWords x = Made.joinable(0);
            due("join", x.join(0, 2, 3), 3);
            words("less", x, "a=1 bc=7 d=6");
        });
        says("with what is KEPT on a SHELF", () -> {
            for (int shelf = 0; shelf < 3; shelf++) {
                NumberWords x = Made.joinable(shelf);
                x.keep((shelf + 1) % 3);
                x.join(shelf, 1, 4);
                words("met with " + shelf, x, "b=9");
                x.join((shelf + 1) % 3, 0, 4);
                words("merged with the one behind it", x, "a=1 b=5 bc=7 d=6");
            }
        });
        says("by a RULE", () -> {
            int[] numbers = {14, 5, 9, 5, 9};
            for (int rule = 0; rule < numbers.length; rule++) {
                NumberWords x = Made.joinable(2);
                x.join(2, 1, rule);
                words("met by " + rule, x, "b=" + numbers[rule]);
            }
        });
        says("how many WORDS", () -> {
            NumberWords x = Made.told("a,b");
            x.keep(0);
            Say.put(x, "c", 1);
            due("merged", x.join(0, 0, 0), 3);
            due("less", x.join(0, 2, 3), 1);
            due("met", x.join(0, 1, 3), 0);
            due("merged of none", x.join(0, 0, 3), 2);
            due("words", x.count(0), 2);
        });
    }

    private void joinRefused() {
        says("-2, and nothing happens: there would be more than 100", () -> {
            for (int rule = 0; rule < 5; rule++) {
                int byRule = rule;
                nothingHappens("101 merged by " + rule, Made::fullOfOthers, x -> x.join(0, 0, byRule), -2);
            }
            NumberWords x = Made.fullOfOthers();
            Say.to(x, "zz").cut();
            due("100 merged", x.join(0, 0, 3), 100);
            due("99 met", Made.fullOfOthers().join(0, 1, 3), 99);
            due("one less", Made.fullOfOthers().join(0, 2, 3), 1);
        });
        says("NONE, and nothing happens, without these", () -> {
            for (int shelf : new int[] {-1, 3, 4, 32, 33, MIN, MAX}) {
                nothingHappens("shelf " + shelf, Made::busy, x -> x.join(shelf, 0, 3), NONE);
            }
            for (int how : new int[] {-1, 3, MIN, MAX}) {
                nothingHappens("how " + how, Made::busy, x -> x.join(1, how, 3), NONE);
            }
            for (int rule : new int[] {-1, 5, MIN, MAX}) {
                nothingHappens("merged by " + rule, Made::busy, x -> x.join(1, 0, rule), NONE);
                nothingHappens("met by " + rule, Made::busy, x -> x.join(1, 1, rule), NONE);
            }
            nothingHappens("no rule, and 101", Made::fullOfOthers, x -> x.join(0, 0, 5), NONE);
        });
        says("or if nothing is KEPT", () -> {
            for (int shelf : new int[] {0, 2}) {
                for (int how = 0; how < 3; how++) {
                    int by = how;
                    nothingHappens("shelf " + shelf + ", how " + how, Made::busy, x -> x.join(shelf, by, 3), NONE);
                }
            }
            NumberWords x = new NumberWords();
            x.keep(0);
            due("no words are kept", x.join(0, 0, 3), 0);
        });
    }

    private void undo() {
        promise(12);
        says("The last ACT is UNDONE: how many more can be", () -> {
            NumberWords x = Made.busy();
            due("states", x.count(1), 7);
            due("states of the builder", x.count(7), 2);
            due("cut", x.undo(), 2);
            words("do is back", x, "car=3 cat=5 do=2 dog=7 ox=9");
            due("states, undone", x.count(1), 7);
            due("START, undone", x.count(3), 2);
            due("do ends", x.about(Say.state(x, "do"), 0), 0);
            due("put", x.undo(), 1);
            words("ox is gone", x, "car=3 cat=5 do=2 dog=7");
            due("states", x.count(1), 6);
            due("open, as ahead of ox", x.count(6), 2);
            due("closed, as ahead of ox", x.count(7), 2);
            due("list", x.undo(), 0);
            words("all are gone", x, "");
            Say.put(x, "a", 1);
            due("an act behind what was undone", x.undo(), 0);
            words("a is gone", x, "");
        });
        says("NONE, and nothing happens, if none can", () -> {
            nothingHappens("undo of a new object", NumberWords::new, NumberWords::undo, NONE);
            nothingHappens("undo of all", () -> {
                NumberWords x = Made.busy();
                for (int i = 0; i < 3; i++) {
                    x.undo();
                }
                return x;
            }, NumberWords::undo, NONE);
            nothingHappens("undo of the thirteenth", () -> {
                NumberWords x = Made.busy();
                for (int i = 1; i <= 20; i++) {
                    Say.put(x, "ox", i);
                }
                for (int i = 0; i < 12; i++) {
                    x.undo();
                }
                return x;
            }, NumberWords::undo, NONE);
            NumberWords x = Made.animals();
            x.keep(0);
            Say.append(x, "a", 1);
            x.pack();
            due("what is no act is not undone", x.undo(), 0);
            due("what is kept stays", x.count(9), 1);
            due("the tape stays", x.count(10), 31);
        });
    }

    private void keep() {
        promise(13);
        says("WORDS are KEPT on a SHELF: how many", () -> {
            NumberWords x = Made.animals();
            for (int shelf = 0; shelf < 3; shelf++) {
                due("keep(" + shelf + ")", x.keep(shelf), 4);
                due("same(" + shelf + ")", x.same(shelf), 1);
            }
            Say.put(x, "ox", 9);
            due("in place of those", x.keep(1), 5);
            due("same(1)", x.same(1), 1);
            due("same(0)", x.same(0), 0);
            due("acts", x.count(8), 2);
            NumberWords none = new NumberWords();
            due("no words", none.keep(2), 0);
            due("are something kept", none.count(9), 4);
            due("100", Made.full().keep(0), 100);
        });
        says("NONE, and nothing happens, without that SHELF", () -> {
            for (int shelf : new int[] {-1, 3, 4, 31, 32, 33, MIN, MAX}) {
                nothingHappens("keep(" + shelf + ")", Made::busy, x -> x.keep(shelf), NONE);
            }
        });
    }

    private void same() {
        promise(14);
        says("Whether the WORDS on a SHELF are the same with the same NUMBERS (1, 0)", () -> {
            for (int shelf = 0; shelf < 3; shelf++) {
                NumberWords x = Made.animals();
                x.keep(shelf);
                due("the same", x.same(shelf), 1);
                Say.put(x, "cat", 6);
                due("another number", x.same(shelf), 0);
                x.undo();
                due("the same, undone", x.same(shelf), 1);
                Say.put(x, "car", 4);
                due("another number of the first", x.same(shelf), 0);
                Say.put(x, "car", 3);
                Say.put(x, "dog", 8);
                due("another number of the last", x.same(shelf), 0);
                Say.put(x, "dog", 7);
                due("the same, put", x.same(shelf), 1);
                Say.to(x, "dog").cut();
                due("a word less", x.same(shelf), 0);
                Say.put(x, "dot", 7);
                due("another word", x.same(shelf), 0);
                Say.to(x, "dot").cut();
                Say.put(x, "dog", 7);
                due("the same again", x.same(shelf), 1);
                Say.put(x, "ox", 1);
                due("a word more", x.same(shelf), 0);
            }
            NumberWords none = new NumberWords();
            none.keep(0);
            due("no words", none.same(0), 1);
            nothingHappens("same", Made::busy, x -> x.same(1), 0);
        });
        says("-2: nothing is KEPT", () -> {
            nothingHappens("same(0)", Made::busy, x -> x.same(0), -2);
            nothingHappens("same(2)", Made::busy, x -> x.same(2), -2);
            due("without words", new NumberWords().same(0), -2);
        });
        says("NONE without that SHELF", () -> {
            for (int shelf : new int[] {-1, 3, 32, 33, MIN, MAX}) {
                nothingHappens("same(" + shelf + ")", Made::busy, x -> x.same(shelf), NONE);
            }
        });
    }
}
