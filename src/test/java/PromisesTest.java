import java.util.Arrays;

/** What each promise says, told by hand: ordinary inputs, edges, wrong inputs. */
public final class PromisesTest {
    private static final int NONE = NumberWords.NONE;
    private static final Exam exam = new Exam();

    private static void due(String call, int got, int want) {
        exam.due(call, got, want);
    }

    private static void words(String call, NumberWords x, String want) {
        String got = Say.words(x);
        exam.holds(call + ": words are " + got + ", due are " + want, got.equals(want));
    }

    private static String repeat(String text, int times) {
        return text.repeat(times);
    }

    public static void main(String[] args) {
        newObject();
        feed();
        end();
        octet();
        list();
        listFaults();
        put();
        cut();
        raise();
        append();
        finish();
        join();
        undo();
        keepAndSame();
        number();
        rank();
        wordAndValue();
        first();
        state();
        arc();
        about();
        range();
        near();
        like();
        best();
        pieces();
        pack();
        unpack();
        unpackFaults();
        unpackOften();
        count();
        exam.close("PromisesTest");
    }

    private static void newObject() {
        due("NONE", NONE, -1);
        NumberWords x = new NumberWords();
        int[] wants = {0, 1, 0, 0, 0, 0, 0, 0, 0, 0, 0, 1};
        for (int what = 0; what < wants.length; what++) {
            due("new: count(" + what + ")", x.count(what), wants[what]);
        }
        due("new: undo", x.undo(), NONE);
        due("new: value(0)", x.value(0), NONE);
        due("new: state", x.state(), 0);
        due("new: arc(0, NONE, 0)", x.arc(0, NONE, 0), 0);
        int[] abouts = {-2, 0, -2, -2, 0, 0, -2, 1};
        for (int what = 0; what < abouts.length; what++) {
            due("new: about(0, " + what + ")", x.about(0, what), abouts[what]);
        }
    }

    private static void feed() {
        NumberWords x = new NumberWords();
        due("feed", x.feed(0x01020304, -1, 0x80000000, 0x7f000001, 0xfe), 20);
        int[] want = {1, 2, 3, 4, 255, 255, 255, 255, 128, 0, 0, 0, 127, 0, 0, 1, 0, 0, 0, 254};
        exam.holds("fed bytes", Arrays.equals(Say.tape(x), want));
        for (int i = 2; i <= 20; i++) {
            due("feed", x.feed(i, 0, 0, 0, 0), 20 * i);
        }
        due("feed, full", x.feed(0, 0, 0, 0, 0), NONE);
        due("feed, full: size", x.count(10), 400);
        due("feed, 381", x.end(381), 381);
        due("feed, 381", x.feed(7, 7, 7, 7, 7), NONE);
        due("feed, 381: size", x.count(10), 381);
        due("feed, 380", x.end(380), 380);
        due("feed, 380", x.feed(0, 0, 0, 0, 9), 400);
        due("feed, last byte", x.octet(399), 9);
    }

    private static void end() {
        NumberWords x = new NumberWords();
        due("end(0) of nothing", x.end(0), 0);
        due("end(1) of nothing", x.end(1), NONE);
        x.feed(0x01020304, 0, 0, 0, 0);
        due("end(21)", x.end(21), NONE);
        due("end(-1)", x.end(-1), NONE);
        due("end(MIN)", x.end(Integer.MIN_VALUE), NONE);
        due("end: size", x.count(10), 20);
        due("end(20)", x.end(20), 20);
        due("end(3)", x.end(3), 3);
        due("end: size", x.count(10), 3);
        due("end(4) behind", x.end(4), NONE);
        x.feed(0x05060708, 0, 0, 0, 0);
        due("the first stays", x.octet(2), 3);
        due("what comes stands behind", x.octet(3), 5);
        due("end: size", x.count(10), 23);
    }

    private static void octet() {
        NumberWords x = new NumberWords();
        due("octet(0) of nothing", x.octet(0), NONE);
        Say.to(x, 255, 0, 128);
        due("octet(0)", x.octet(0), 255);
        due("octet(1)", x.octet(1), 0);
        due("octet(2)", x.octet(2), 128);
        due("octet(3)", x.octet(3), NONE);
        due("octet(-1)", x.octet(-1), NONE);
        due("octet(400)", x.octet(400), NONE);
        due("octet(MAX)", x.octet(Integer.MAX_VALUE), NONE);
    }

    private static void list() {
        NumberWords x = new NumberWords();
        due("list", Say.to(x, " cat=5, car=3,dog =007 ,do= 2  ").list(), 4);
        due("list: tape", x.count(10), 0);
        words("list", x, "car=3 cat=5 do=2 dog=7");
        due("list: acts", x.count(8), 1);
        due("list, more", Say.to(x, "a,cat=6,abcdefghij=999999").list(), 6);
        words("list, more", x, "a=0 abcdefghij=999999 car=3 cat=6 do=2 dog=7");
        due("list, the same", Say.to(x, "cat=6").list(), 6);
        due("list, the same is an act", x.count(8), 3);
        due("list, many noughts", Say.to(x, "b=" + repeat("0", 300) + "12").list(), 7);
        due("list, many noughts", Say.to(x, "b").number(), 12);
        NumberWords y = Made.full();
        due("list on the full", Say.to(y, "aa=4,dv=5").list(), 100);
        due("list on the full", y.value(99), 5);
    }

    private static void listFault(String text, int place, int kind) {
        NumberWords x = Made.animals();
        due("list \"" + text + "\"", Say.to(x, text).list(), -2 - (8 * place + kind));
        due("list \"" + text + "\": tape", x.count(10), 0);
        due("list \"" + text + "\": acts", x.count(8), 1);
        words("list \"" + text + "\"", x, "car=3 cat=5 do=2 dog=7");
    }

    private static void listFaults() {
        listFault("", 0, 1);
        listFault("   ", 3, 1);
        listFault("1", 0, 1);
        listFault(",", 0, 1);
        listFault("=", 0, 1);
        listFault("Cat", 0, 1);
        listFault("cAt", 1, 1);
        listFault("ab=", 3, 1);
        listFault("ab= ", 4, 1);
        listFault("ab,", 3, 1);
        listFault("ab, ", 4, 1);
        listFault("ab,,cd", 3, 1);
        listFault("ab cd", 3, 1);
        listFault("ab=1 2", 5, 1);
        listFault("ab=12x", 5, 1);
        listFault("ab==1", 3, 1);
        listFault("ab=-1", 3, 1);
        listFault("ab=1=2", 4, 1);
        listFault("ab\0", 2, 1);
        listFault("ab\u00ff", 2, 1);
        listFault("ab`", 2, 1);
        listFault("ab{", 2, 1);
        listFault("ab=1/", 4, 1);
        listFault("ab=1:", 4, 1);
        listFault("ab\t", 2, 1);
        listFault("abcdefghijk", 0, 2);
        listFault("a,abcdefghijkl=5", 2, 2);
        listFault("a, abcdefghijk!", 3, 2);
        listFault("ab=1000000", 3, 2);
        listFault("ab= 999999999999999999999999", 4, 2);
        listFault("ab=1000000!", 3, 2);
        listFault("ab=4294967297", 3, 2);
        listFault("ab,ab", 3, 3);
        listFault("ab=1, ab=2", 6, 3);
        listFault("a,b,a!", 4, 3);
        listFault(Made.pairs(0, 98), 3 * 97, 4);
        NumberWords x = Made.full();
        due("the 101st", Say.to(x, "aa=1,zz").list(), -2 - (8 * 5 + 4));
        due("the 101st and too long", Say.to(x, "zzzzzzzzzzz").list(), -2 - 2);
        due("the 101st told twice", Say.to(x, "aa,aa").list(), -2 - (8 * 3 + 3));
        due("the first of the faults", Say.to(x, "aa,zz,,").list(), -2 - (8 * 3 + 4));
        due("an ahead one of the faults", Say.to(x, "aa,=,zz").list(), -2 - (8 * 3 + 1));
        due("aa is as it was", x.value(0), 0);
        String longest = Made.pairs(0, 100) + ",dw" + repeat(" ", 98);
        due("a list of 400 bytes", Say.to(new NumberWords(), longest).list(), -2 - (8 * 300 + 4));
        due("a fault at the end of 400 bytes", Say.to(new NumberWords(), "a" + repeat(" ", 398) + ",").list(),
                -2 - (8 * 400 + 1));
    }

    private static void put() {
        NumberWords x = new NumberWords();
        due("put cat", Say.put(x, "cat", 5), 4);
        due("put: tape", x.count(10), 0);
        due("put car", Say.put(x, "car", 3), 4);
        due("put cat, another number", Say.put(x, "cat", 6), 4);
        words("put", x, "car=3 cat=6");
        due("put: acts", x.count(8), 3);
        due("put, there so", Say.put(x, "cat", 6), -2);
        due("put, there so: tape", x.count(10), 0);
        due("put, below 0", Say.put(x, "cow", -1), NONE);
        due("put, below 0: tape", x.count(10), 0);
        due("put, above", Say.put(x, "cow", 1000000), NONE);
        due("put, nothing", Say.put(x, "", 1), NONE);
        due("put, eleven letters", Say.put(x, "abcdefghijk", 1), NONE);
        due("put, a blank", Say.put(x, " cow", 1), NONE);
        due("put, a list", Say.put(x, "cow=3", 1), NONE);
        due("put, a capital", Say.put(x, "Cow", 1), NONE);
        due("put, no word: tape", x.count(10), 0);
        due("put, faults: acts", x.count(8), 3);
        words("put, faults", x, "car=3 cat=6");
        due("put, the greatest", Say.put(x, "abcdefghij", 999999), 13);
        due("put, the least", Say.put(x, "z", 0), 13);
        words("put, all", x, "abcdefghij=999999 car=3 cat=6 z=0");
        NumberWords y = Made.full();
        due("put, the 101st", Say.put(y, "zz", 1), NONE);
        due("put, the 101st: tape", y.count(10), 0);
        due("put, the 101st: acts", y.count(8), 1);
        due("put, one of the 100", Say.put(y, "aa", 1), y.count(1));
        due("put, one of the 100", y.value(0), 1);
        due("put, one of the 100: acts", y.count(8), 2);
        due("put, one of the 100, there so", Say.put(y, "aa", 1), -2);
    }

    private static void cut() {
        NumberWords x = Made.animals();
        due("cut cat", Say.to(x, "cat").cut(), 6);
        due("cut: tape", x.count(10), 0);
        words("cut", x, "car=3 do=2 dog=7");
        due("cut, not there", Say.to(x, "cat").cut(), NONE);
        due("cut, not there: tape", x.count(10), 0);
        due("cut, a beginning", Say.to(x, "d").cut(), NONE);
        due("cut, nothing", Say.to(x, "").cut(), NONE);
        due("cut, a blank", Say.to(x, "do ").cut(), NONE);
        due("cut, too long", Say.to(x, "dogdogdogdog").cut(), NONE);
        due("cut: acts", x.count(8), 2);
        due("cut do", Say.to(x, "do").cut(), 6);
        due("cut dog", Say.to(x, "dog").cut(), 4);
        due("cut car", Say.to(x, "car").cut(), 1);
        due("cut, none left", x.count(0), 0);
        due("cut, none left: start", x.count(3), 0);
        NumberWords y = Made.full();
        due("cut aa of 100", Say.to(y, "aa").cut(), y.count(1));
        due("cut of 100", y.count(0), 99);
        due("cut of 100: the last", y.word(98, 1), 22);
    }

    private static void raise() {
        NumberWords x = new NumberWords();
        due("raise of nothing", x.raise(1), NONE);
        due("raise of nothing: acts", x.count(8), 0);
        x = Made.animals();
        due("raise(0)", x.raise(0), NONE);
        due("raise(-3)", x.raise(-3), NONE);
        due("raise(999993)", x.raise(999993), NONE);
        due("raise(MIN)", x.raise(Integer.MIN_VALUE), NONE);
        due("raise(MAX)", x.raise(Integer.MAX_VALUE), NONE);
        due("raise, faults: acts", x.count(8), 1);
        words("raise, faults", x, "car=3 cat=5 do=2 dog=7");
        due("raise(-2)", x.raise(-2), 0);
        words("raise(-2)", x, "car=1 cat=3 do=0 dog=5");
        due("raise(999994)", x.raise(999994), 999994);
        words("raise(999994)", x, "car=999995 cat=999997 do=999994 dog=999999");
        due("raise(1)", x.raise(1), NONE);
        due("raise: acts", x.count(8), 3);
        due("raise: start", x.count(3), 999994);
        due("raise(-999994)", x.raise(-999994), 0);
    }

    private static void append() {
        NumberWords x = Made.animals();
        due("append ab", Say.append(x, "ab", 4), 3);
        due("append: tape", x.count(10), 0);
        due("append b", Say.append(x, "b", 4), 4);
        due("append: open", x.count(6), 2);
        due("append: closed", x.count(7), 2);
        due("append ba", Say.append(x, "ba", 9), 5);
        due("append: open", x.count(6), 3);
        due("append: closed", x.count(7), 2);
        due("append cb, as ab", Say.append(x, "cb", 1), 6);
        due("append: open", x.count(6), 3);
        due("append: closed", x.count(7), 3);
        due("append d: cb closes as ab did", Say.append(x, "d", 1), 5);
        due("append: closed", x.count(7), 3);
        due("append, the same", Say.append(x, "d", 1), -2);
        due("append, the same, another number", Say.append(x, "d", 2), -2);
        due("append, ahead", Say.append(x, "cc", 1), -2);
        due("append, ahead: tape", x.count(10), 0);
        due("append, below 0", Say.append(x, "e", -1), NONE);
        due("append, above", Say.append(x, "e", 1000000), NONE);
        due("append, ahead, and no number", Say.append(x, "a", -1), NONE);
        due("append, nothing", Say.append(x, "", 1), NONE);
        due("append, eleven letters", Say.append(x, "eeeeeeeeeee", 1), NONE);
        due("append, a sign", Say.append(x, "e-", 1), NONE);
        due("append, no word: tape", x.count(10), 0);
        due("append: words of the builder", x.count(5), 5);
        due("append: words", x.count(0), 4);
        due("append is no act", x.count(8), 1);
        NumberWords y = new NumberWords();
        for (int i = 0; i < 100; i++) {
            Say.append(y, Made.pairs(i, i + 1), i);
        }
        due("append, 100", y.count(5), 100);
        due("append, the 101st", Say.append(y, "zz", 0), NONE);
        due("append, the 101st: tape", y.count(10), 0);
        due("append, ahead of the last of 100", Say.append(y, "aa", 0), NONE);
        due("append, ahead of the last of 100: tape", y.count(10), 0);
        due("append, the last of 100 again", Say.append(y, Made.pairs(99, 100), 99), NONE);
        due("append, no word behind 100", Say.append(y, "a-", 0), NONE);
        due("append, no number behind 100", Say.append(y, "zz", -1), NONE);
        due("append, 100", y.count(5), 100);
        due("append, 100: open", y.count(6), 3);
        due("append, 100 are no act", y.count(8), 0);
        NumberWords z = new NumberWords();
        for (int i = 0; i < 99; i++) {
            Say.append(z, Made.pairs(i, i + 1), i);
        }
        due("append, ahead of the last of 99", Say.append(z, "aa", 0), -2);
        due("append, the last of 99 again", Say.append(z, Made.pairs(98, 99), 98), -2);
        due("append, 99", z.count(5), 99);
        Say.append(z, "zz", 0);
        due("append, the 100th", z.count(5), 100);
        z.finish();
        due("append behind 100 that are finished", Say.append(z, "a", 0), 2);
    }

    private static void finish() {
        NumberWords x = Made.animals();
        due("finish of nothing", x.finish(), NONE);
        due("finish of nothing: acts", x.count(8), 1);
        Say.append(x, "ab", 4);
        Say.append(x, "b", 4);
        Say.append(x, "cb", 1);
        due("finish", x.finish(), 3);
        words("finish", x, "ab=4 b=4 cb=1");
        due("finish: builder", x.count(5), 0);
        due("finish: open", x.count(6), 0);
        due("finish: closed", x.count(7), 0);
        due("finish: acts", x.count(8), 2);
        due("finish again", x.finish(), NONE);
        due("append after finish", Say.append(x, "a", 0), 2);
        words("append after finish", x, "ab=4 b=4 cb=1");
    }

    private static NumberWords ofTwo() {
        NumberWords x = Made.told("b=600000,c=2,d=9");
        x.keep(1);
        Say.to(x, "d").cut();
        Say.to(x, "a=4,b=500000,c=3").list();
        return x;
    }

    private static void join() {
        String[] merged = {"b=999999 c=5", "b=500000 c=2", "b=600000 c=3", "b=500000 c=3", "b=600000 c=2"};
        for (int rule = 0; rule < 5; rule++) {
            NumberWords x = ofTwo();
            due("join(1, 0, " + rule + ")", x.join(1, 0, rule), 4);
            words("merged by " + rule, x, "a=4 " + merged[rule] + " d=9");
            due("undo of a join", x.undo(), 3);
            words("undone", x, "a=4 b=500000 c=3");
            due("join(1, 1, " + rule + ")", x.join(1, 1, rule), 2);
            words("met by " + rule, x, merged[rule]);
        }
        NumberWords x = ofTwo();
        int acts = x.count(8);
        for (int rule = -1; rule < 6; rule++) {
            due("join(1, 2, " + rule + ")", x.join(1, 2, rule), rule == 3 ? 1 : NONE);
        }
        words("less", x, "a=4");
        due("join: acts", x.count(8), acts + 1);
        due("join(0, 0, 0)", x.join(0, 0, 0), NONE);
        due("join(-1, 0, 0)", x.join(-1, 0, 0), NONE);
        due("join(3, 0, 0)", x.join(3, 0, 0), NONE);
        due("join(33, 0, 0)", x.join(33, 0, 0), NONE);
        due("join(1, -1, 0)", x.join(1, -1, 3), NONE);
        due("join(1, 3, 0)", x.join(1, 3, 3), NONE);
        due("join(1, 0, -1)", x.join(1, 0, -1), NONE);
        due("join(1, 1, 5)", x.join(1, 1, 5), NONE);
        due("join, faults: acts", x.count(8), acts + 1);
        NumberWords y = Made.full();
        y.keep(0);
        Say.to(y, "aa").cut();
        due("join, 100 in all", y.join(0, 0, 3), 100);
        Say.to(y, "aa").cut();
        Say.put(y, "zz", 1);
        acts = y.count(8);
        due("join, 101 in all", y.join(0, 0, 3), -2);
        due("join, 101 in all: acts", y.count(8), acts);
        due("join, 101 in all: words", y.word(99, 0), 26);
        due("join, met", y.join(0, 1, 3), 99);
        due("join, less", y.join(0, 2, 3), 0);
        joinBehindAll();
    }

    /** The last word that there can be stands here, there, or in both, behind the last one of the other. */
    private static void joinBehindAll() {
        for (String[] pair : new String[][] {{"zzzzzzzzzz=5", "a=1"}, {"a=1", "zzzzzzzzzz=5"},
            {"a=1,zzzzzzzzzz=5", "zzzzzzzzzz=4"}}) {
            NumberWords x = Made.told(pair[0]);
            x.keep(2);
            x.undo();
            Say.to(x, pair[1]).list();
            due("join of " + pair[0] + " to " + pair[1], x.join(2, 0, 2), 2);
            words("join of " + pair[0] + " to " + pair[1], x, "a=1 zzzzzzzzzz=5");
        }
    }

    private static void undo() {
        NumberWords x = Made.animals();
        due("undo list", x.undo(), 0);
        words("undo list", x, "");
        due("undo, no more", x.undo(), NONE);
        for (int i = 1; i <= 13; i++) {
            Say.put(x, "a", i);
        }
        due("twelve acts at most", x.count(8), 12);
        for (int i = 11; i >= 0; i--) {
            due("undo", x.undo(), i);
            due("undo, number", x.value(0), i + 1);
        }
        due("undo, the 13th", x.undo(), NONE);
        due("undo, the 13th", x.value(0), 1);
        Say.to(x, "a").cut();
        due("undo cut", x.undo(), 0);
        words("undo cut", x, "a=1");
        x.raise(5);
        due("undo raise", x.undo(), 0);
        words("undo raise", x, "a=1");
        Say.append(x, "b", 2);
        Say.append(x, "c", 2);
        x.finish();
        Say.append(x, "x", 3);
        due("undo finish", x.undo(), 0);
        words("undo finish", x, "a=1");
        due("undo finish: builder", x.count(5), 2);
        due("undo finish: builder goes on", Say.append(x, "d", 2), 3);
        Say.put(x, "b", 1);
        Say.append(x, "e", 1);
        due("undo: builder", x.count(5), 4);
        due("undo put", x.undo(), 0);
        due("undo put: the builder as it was ahead", x.count(5), 3);
        x.pack();
        x.unpack();
        due("unpack is an act", x.count(8), 1);
        due("undo unpack", x.undo(), 0);
        x.keep(2);
        Say.put(x, "q", 1);
        x.undo();
        due("what is kept stays", x.count(9), 4);
    }

    private static void keepAndSame() {
        NumberWords x = Made.animals();
        for (int shelf : new int[] {-1, 3, 32, Integer.MIN_VALUE}) {
            due("keep(" + shelf + ")", x.keep(shelf), NONE);
            due("same(" + shelf + ")", x.same(shelf), NONE);
        }
        due("same(0), nothing kept", x.same(0), -2);
        due("shelves", x.count(9), 0);
        due("keep(2)", x.keep(2), 4);
        due("shelves", x.count(9), 4);
        due("same(2)", x.same(2), 1);
        due("same(1), nothing kept", x.same(1), -2);
        Say.put(x, "cat", 6);
        due("same(2), another number", x.same(2), 0);
        Say.put(x, "cat", 5);
        due("same(2), again", x.same(2), 1);
        Say.to(x, "cat").cut();
        Say.put(x, "caw", 5);
        due("same(2), another word", x.same(2), 0);
        Say.to(x, "caw").cut();
        due("same(2), a word less", x.same(2), 0);
        due("keep(2) again", x.keep(2), 3);
        due("same(2) again", x.same(2), 1);
        due("keep is no act", x.count(8), 6);
        NumberWords y = new NumberWords();
        due("keep of nothing", y.keep(0), 0);
        due("keep of nothing: shelves", y.count(9), 1);
        due("same of nothing", y.same(0), 1);
        due("keep(1)", y.keep(1), 0);
        due("shelves", y.count(9), 3);
        Say.put(y, "a", 0);
        due("same of nothing", y.same(0), 0);
    }

    private static void number() {
        NumberWords x = Made.animals();
        due("number cat", Say.to(x, "cat").number(), 5);
        due("number: tape", x.count(10), 0);
        due("number do", Say.to(x, "do").number(), 2);
        due("number ca", Say.to(x, "ca").number(), -2);
        due("number cats", Say.to(x, "cats").number(), -2);
        due("number ten letters", Say.to(x, "catcatcatc").number(), -2);
        due("number eleven letters", Say.to(x, "catcatcatca").number(), NONE);
        due("number nothing", Say.to(x, "").number(), NONE);
        due("number Cat", Say.to(x, "Cat").number(), NONE);
        due("number: tape", x.count(10), 0);
    }

    private static void rank() {
        NumberWords x = Made.animals();
        due("rank car", Say.to(x, "car").rank(), 0);
        due("rank cat", Say.to(x, "cat").rank(), 1);
        due("rank cats", Say.to(x, "cats").rank(), 2);
        due("rank do", Say.to(x, "do").rank(), 2);
        due("rank doa", Say.to(x, "doa").rank(), 3);
        due("rank dog", Say.to(x, "dog").rank(), 3);
        due("rank zzz", Say.to(x, "zzz").rank(), 4);
        due("rank nothing", Say.to(x, "").rank(), 0);
        due("rank 60", Say.to(x, repeat("d", 60)).rank(), 2);
        due("rank 61", Say.to(x, repeat("d", 61)).rank(), NONE);
        due("rank, a blank", Say.to(x, "c at").rank(), NONE);
        due("rank: tape", x.count(10), 0);
        Say.put(x, "abcdefghij", 0);
        due("rank of ten letters", Say.to(x, "abcdefghij").rank(), 0);
        due("rank of ten letters and one", Say.to(x, "abcdefghija").rank(), 1);
        due("rank of ten other letters and one", Say.to(x, "abcdefghiia").rank(), 0);
    }

    private static void wordAndValue() {
        NumberWords x = Made.animals();
        due("word(2, NONE)", x.word(2, NONE), 2);
        due("word(3, NONE)", x.word(3, NONE), 3);
        due("word(0, 0)", x.word(0, 0), 3);
        due("word(0, 1)", x.word(0, 1), 1);
        due("word(0, 2)", x.word(0, 2), 18);
        due("word(0, 3)", x.word(0, 3), NONE);
        due("word(2, 2)", x.word(2, 2), NONE);
        due("word(0, -2)", x.word(0, -2), NONE);
        due("word(0, MIN)", x.word(0, Integer.MIN_VALUE), NONE);
        due("word(0, MAX)", x.word(0, Integer.MAX_VALUE), NONE);
        due("word(4, NONE)", x.word(4, NONE), NONE);
        due("word(-1, NONE)", x.word(-1, NONE), NONE);
        due("value(0)", x.value(0), 3);
        due("value(3)", x.value(3), 7);
        due("value(4)", x.value(4), NONE);
        due("value(-1)", x.value(-1), NONE);
        Say.put(x, "zyxwvutsrq", 0);
        due("word(4, NONE)", x.word(4, NONE), 10);
        due("word(4, 0)", x.word(4, 0), 26);
        due("word(4, 9)", x.word(4, 9), 17);
        due("word(4, 10)", x.word(4, 10), NONE);
    }

    private static void first() {
        NumberWords x = Made.told("b=4,a=7,c=4,d=0,e=999999");
        due("first(4)", x.first(4), 1);
        due("first(7)", x.first(7), 0);
        due("first(0)", x.first(0), 3);
        due("first(999999)", x.first(999999), 4);
        due("first(5)", x.first(5), -2);
        due("first(-1)", x.first(-1), NONE);
        due("first(1000000)", x.first(1000000), NONE);
    }

    private static void state() {
        NumberWords x = Made.animals();
        String[] beginnings = {"", "c", "ca", "car", "cat", "d", "do", "dog"};
        int[] states = {0, 1, 2, 3, 3, 4, 5, 3};
        for (int i = 0; i < states.length; i++) {
            due("state " + beginnings[i], Say.to(x, beginnings[i]).state(), states[i]);
        }
        due("state: tape", x.count(10), 0);
        due("state x", Say.to(x, "x").state(), -2);
        due("state cats", Say.to(x, "cats").state(), -2);
        due("state of 400 letters", Say.to(x, repeat("c", 400)).state(), -2);
        due("state ca?", Say.to(x, "ca?").state(), NONE);
        due("state, a blank", Say.to(x, " ").state(), NONE);
        due("state: tape", x.count(10), 0);
        Say.put(x, "abcdefghij", 0);
        due("state of ten letters", Say.to(x, "abcdefghij").state(), 10);
        due("state of ten letters and one", Say.to(x, "abcdefghijk").state(), -2);
        due("state, numbered anew", Say.to(x, "d").state(), 13);
        NumberWords y = Made.told("ab=1,ac=5,b=2,bb=3");
        due("like letters, other numbers: a", Say.to(y, "a").state(), 1);
        due("b", Say.to(y, "b").state(), 3);
        NumberWords z = Made.told("xa=1,xb=5,ya=3,yb=7");
        due("like rests: x", Say.to(z, "x").state(), 1);
        due("like rests: y", Say.to(z, "y").state(), 1);
        due("states", z.count(1), 3);
    }

    private static void arc() {
        NumberWords x = Made.animals();
        int[][] arcs = {{0, 0, 3, 1, 1}, {0, 1, 4, 0, 4}, {1, 0, 1, 0, 2}, {2, 0, 18, 0, 3}, {2, 1, 20, 2, 3},
            {4, 0, 15, 0, 5}, {5, 0, 7, 5, 3}};
        for (int[] arc : arcs) {
            for (int what = 0; what < 3; what++) {
                due("arc(" + arc[0] + ", " + arc[1] + ", " + what + ")", x.arc(arc[0], arc[1], what), arc[2 + what]);
            }
        }
        int[] many = {2, 1, 2, 0, 1, 1};
        for (int s = 0; s < many.length; s++) {
            due("arc(" + s + ", NONE, 0)", x.arc(s, NONE, 0), many[s]);
            due("arc(" + s + ", " + many[s] + ", 0)", x.arc(s, many[s], 0), NONE);
        }
        due("arc(6, NONE, 0)", x.arc(6, NONE, 0), NONE);
        due("arc(6, 0, 0)", x.arc(6, 0, 0), NONE);
        due("arc(-1, 0, 0)", x.arc(-1, 0, 0), NONE);
        due("arc(0, -2, 0)", x.arc(0, -2, 0), NONE);
        due("arc(0, 0, 3)", x.arc(0, 0, 3), NONE);
        due("arc(0, 0, -1)", x.arc(0, 0, -1), NONE);
    }

    private static void about() {
        NumberWords x = Made.animals();
        int[][] abouts = {
            {-2, 4, 3, 2, 0, 0, 5, 1},
            {-2, 2, 2, 2, 1, 1, 2, 1},
            {-2, 2, 1, 1, 1, 2, 2, 1},
            {0, 1, 0, 0, 3, 3, 0, 3},
            {-2, 2, 2, 1, 1, 1, 5, 1},
            {0, 2, 1, 0, 1, 2, 5, 1}};
        for (int s = 0; s < abouts.length; s++) {
            for (int what = 0; what < 8; what++) {
                due("about(" + s + ", " + what + ")", x.about(s, what), abouts[s][what]);
            }
        }
        due("about(6, 0)", x.about(6, 0), NONE);
        due("about(-1, 0)", x.about(-1, 0), NONE);
        due("about(0, 8)", x.about(0, 8), NONE);
        due("about(0, -1)", x.about(0, -1), NONE);
        NumberWords y = Made.told("a=9,ab=4,abc=6");
        due("ends above the least", y.about(1, 0), 5);
        due("ends with the least", y.about(2, 0), 0);
        due("ends with the last", y.about(3, 0), 0);
        NumberWords z = Made.told("a=1,xa=1,yxa=1");
        due("the shortest beginning", z.about(1, 5), 1);
        due("the shortest of two", z.about(2, 5), 1);
        due("arcs that come", z.about(1, 4), 2);
    }

    private static void rangeDue(NumberWords x, String text, int... wants) {
        for (int what = 0; what < 5; what++) {
            due("range " + text + " " + what, Say.to(x, text).range(what), wants[what]);
            due("range: tape", x.count(10), 0);
        }
    }

    private static void range() {
        NumberWords x = Made.animals();
        rangeDue(x, "car-do", 3, 10, 2, 5, 0);
        rangeDue(x, "cat-", 3, 14, 2, 7, 1);
        rangeDue(x, "-", 4, 17, 2, 7, 0);
        rangeDue(x, "-cat", 2, 8, 3, 5, 0);
        rangeDue(x, "d-c", 0, 0, -2, -2, -2);
        rangeDue(x, "cb-d", 0, 0, -2, -2, -2);
        rangeDue(x, "e-", 0, 0, -2, -2, -2);
        rangeDue(x, "dog-dog", 1, 7, 7, 7, 3);
        rangeDue(x, "doa-zzzzzzzzzz", 1, 7, 7, 7, 3);
        String[] wrong = {"", "car", "car--do", "car-do-", "car - do", "Car-do", "car-d0", "abcdefghijk-", "-abcdefghijk"};
        for (String text : wrong) {
            rangeDue(x, text, NONE, NONE, NONE, NONE, NONE);
        }
        due("range 5", Say.to(x, "a-b").range(5), NONE);
        due("range -1", Say.to(x, "a-b").range(-1), NONE);
        due("range -1: tape", x.count(10), 0);
        NumberWords y = Made.told("a=999999,b=999999,c=0");
        rangeDue(y, "a-b", 2, 1999998, 999999, 999999, 0);
    }

    private static void nearDue(NumberWords x, String text, int d, int... ranks) {
        due("near " + text + " " + d, Say.to(x, text).near(d, NONE), ranks.length);
        for (int k = 0; k < ranks.length; k++) {
            due("near " + text + " " + d + " " + k, Say.to(x, text).near(d, k), ranks[k]);
        }
        due("near " + text + " " + d + ", no more", Say.to(x, text).near(d, ranks.length), -2);
        due("near: tape", x.count(10), 0);
    }

    private static void near() {
        NumberWords x = Made.animals();
        nearDue(x, "cat", 0, 1);
        nearDue(x, "cot", 0);
        nearDue(x, "cot", 1, 1);
        nearDue(x, "cot", 2, 0, 1, 2, 3);
        nearDue(x, "", 2, 2);
        nearDue(x, "", 3, 0, 1, 2, 3);
        nearDue(x, "dogs", 1, 3);
        nearDue(x, "og", 1, 3);
        nearDue(x, "tac", 2, 0, 1);
        nearDue(x, "tac", 1);
        nearDue(x, "catcatcatc", 3);
        due("near -1", Say.to(x, "cat").near(-1, 0), NONE);
        due("near 4", Say.to(x, "cat").near(4, 0), NONE);
        due("near k -2", Say.to(x, "cat").near(1, -2), NONE);
        due("near 11 letters", Say.to(x, "catcatcatca").near(1, 0), NONE);
        due("near, a sign", Say.to(x, "ca?").near(1, 0), NONE);
        due("near: tape", x.count(10), 0);
        NumberWords y = Made.told("kitten,sitting");
        nearDue(y, "kitten", 3, 0, 1);
        nearDue(y, "kitten", 2, 0);
    }

    private static void likeDue(NumberWords x, String text, int... ranks) {
        due("like " + text, Say.to(x, text).like(NONE), ranks.length);
        for (int k = 0; k < ranks.length; k++) {
            due("like " + text + " " + k, Say.to(x, text).like(k), ranks[k]);
        }
        due("like " + text + ", no more", Say.to(x, text).like(ranks.length), -2);
        due("like: tape", x.count(10), 0);
    }

    private static void like() {
        NumberWords x = Made.animals();
        likeDue(x, "cat", 1);
        likeDue(x, "ca?", 0, 1);
        likeDue(x, "ca", new int[0]);
        likeDue(x, "*o*", 2, 3);
        likeDue(x, "do*", 2, 3);
        likeDue(x, "do?*", 3);
        likeDue(x, "?", new int[0]);
        likeDue(x, "??", 2);
        likeDue(x, "*", 0, 1, 2, 3);
        likeDue(x, "**", 0, 1, 2, 3);
        likeDue(x, "*t", 1);
        likeDue(x, "*a*r", 0);
        likeDue(x, "************", 0, 1, 2, 3);
        likeDue(x, "???*********", 0, 1, 3);
        due("like k -2", Say.to(x, "*").like(-2), NONE);
        due("like c.t", Say.to(x, "c.t").like(0), NONE);
        due("like nothing", Say.to(x, "").like(NONE), NONE);
        due("like 13 signs", Say.to(x, "*************").like(NONE), NONE);
        due("like C", Say.to(x, "C").like(NONE), NONE);
        due("like: tape", x.count(10), 0);
        NumberWords y = Made.told("aab,aaab,abab,abcdefghij");
        likeDue(y, "*ab", 0, 1, 2);
        likeDue(y, "a*a*b", 0, 1, 2);
        likeDue(y, "a*e?g*", 3);
    }

    private static void bestDue(NumberWords x, String text, int... ranks) {
        for (int k = 0; k < ranks.length; k++) {
            due("best " + text + " " + k, Say.to(x, text).best(k), ranks[k]);
        }
        due("best " + text + ", no more", Say.to(x, text).best(ranks.length), -2);
        due("best: tape", x.count(10), 0);
    }

    private static void best() {
        NumberWords x = Made.told("a=5,ab=9,abc=5,b=9,ba=1,bb=1,c=0");
        bestDue(x, "", 1, 3, 0, 2, 4, 5, 6);
        bestDue(x, "a", 1, 0, 2);
        bestDue(x, "b", 3, 4, 5);
        bestDue(x, "ab", 1, 2);
        bestDue(x, "c", 6);
        bestDue(x, "d", new int[0]);
        bestDue(x, "abcdefghij", new int[0]);
        due("best -1", Say.to(x, "a").best(-1), NONE);
        due("best 11 letters", Say.to(x, "abcdefghijk").best(0), NONE);
        due("best, a sign", Say.to(x, "a*").best(0), NONE);
        due("best: tape", x.count(10), 0);
    }

    private static void piecesDue(NumberWords x, String text, int... wants) {
        for (int what = 0; what < 5; what++) {
            due("pieces " + text + " " + what, Say.to(x, text).pieces(what), wants[what]);
            due("pieces: tape", x.count(10), 0);
        }
    }

    private static void pieces() {
        NumberWords x = Made.told("cat=5,car=3,dog=7,do=2,gs=4,s=1,dogs=1");
        piecesDue(x, "catdogdo", 3, 8, 3, 14, 1);
        piecesDue(x, "dogs", 1, 4, 1, 8, 3);
        piecesDue(x, "doga", 1, 3, -2, -2, 0);
        piecesDue(x, "xdog", 0, 0, -2, -2, 0);
        piecesDue(x, "dogsdogs", 2, 8, 2, 16, 9);
        NumberWords y = Made.told("ab=1,abc=9,cd=5,d=2");
        piecesDue(y, "abcd", 2, 4, 2, 11, 2);
        NumberWords g = Made.told("ab=1,abc=9,cd=5");
        piecesDue(g, "abcd", 1, 3, 2, 6, 1);
        NumberWords z = Made.told("a=0,aa=999999,aaaaaaaaaa=3");
        piecesDue(z, repeat("a", 10), 1, 10, 1, 4999995, 90);
        piecesDue(z, repeat("a", 12), 2, 12, 2, 5999994, 238);
        long[] ways = new long[61];
        ways[0] = 1;
        for (int i = 1; i <= 60; i++) {
            ways[i] = ways[i - 1] + (i > 1 ? ways[i - 2] : 0) + (i > 9 ? ways[i - 10] : 0);
        }
        piecesDue(z, repeat("a", 60), 6, 60, 6, 29999970, (int) (ways[60] % 1000003));
        piecesDue(Made.told("a"), repeat("a", 60), 60, 60, 60, 0, 1);
        piecesDue(Made.told("a"), repeat("a", 59) + "b", 59, 59, -2, -2, 0);
        due("pieces, 61 letters", Say.to(z, repeat("a", 61)).pieces(0), NONE);
        due("pieces, nothing", Say.to(z, "").pieces(0), NONE);
        due("pieces, a blank", Say.to(z, "a a").pieces(0), NONE);
        due("pieces 5", Say.to(z, "a").pieces(5), NONE);
        due("pieces -1", Say.to(z, "a").pieces(-1), NONE);
        due("pieces: tape", z.count(10), 0);
    }

    private static final int[] ANIMALS_PACKED = {6, 2, 4, 3, 1, 1, 4, 0, 4, 2, 1, 0, 2, 4, 18, 0, 3, 20, 2, 3, 1, 0,
        2, 15, 0, 5, 3, 0, 7, 5, 3};

    private static void pack() {
        NumberWords x = Made.animals();
        Say.to(x, "something");
        due("pack", x.pack(), 31);
        exam.holds("packed", Arrays.equals(Say.tape(x), ANIMALS_PACKED));
        due("pack is no act", x.count(8), 1);
        NumberWords y = new NumberWords();
        due("pack of nothing", y.pack(), 3);
        exam.holds("packed nothing", Arrays.equals(Say.tape(y), new int[] {1, 0, 0}));
        NumberWords z = Made.told("a=127,b=255,c=16511,d=999999");
        due("pack of great numbers", z.pack(), 22);
        int[] want = {2, 127, 8, 1, 0, 1, 2, 128, 1, 1, 3, 128, 128, 1, 1, 4, 192, 131, 61, 1, 1, 0};
        exam.holds("packed great numbers", Arrays.equals(Say.tape(z), want));
        NumberWords most = Made.ofBytes(79);
        due("pack of 400 bytes", most.pack(), 400);
        due("unpack of 400 bytes", most.unpack(), 100);
        NumberWords more = Made.ofBytes(80);
        Say.to(more, "abc");
        due("pack of 401 bytes", more.pack(), -2);
        due("pack of 401 bytes: tape", more.count(10), 3);
        due("pack of 401 bytes: tape", more.octet(2), 'c');
        due("pack of 401 bytes: words", more.count(0), 100);
    }

    private static void unpack() {
        NumberWords x = Made.told("z=1");
        due("unpack", Say.to(x, ANIMALS_PACKED).unpack(), 4);
        due("unpack: tape", x.count(10), 0);
        due("unpack: acts", x.count(8), 2);
        words("unpack", x, "car=3 cat=5 do=2 dog=7");
        due("unpack: states", x.count(1), 6);
        due("undo unpack", x.undo(), 1);
        words("undo unpack", x, "z=1");
        due("undo unpack: states", x.count(1), 2);
        due("unpack nothing", Say.to(x, 1, 0, 0).unpack(), 0);
        words("unpack nothing", x, "");
        NumberWords y = Made.full();
        y.keep(0);
        due("pack 100", y.pack() > 0 ? 1 : 0, 1);
        due("unpack 100", y.unpack(), 100);
        due("unpack 100", y.same(0), 1);
    }

    private static void unpackFault(int place, int kind, int... bytes) {
        NumberWords x = Made.animals();
        String name = "unpack " + Arrays.toString(bytes);
        due(name, Say.to(x, bytes).unpack(), -2 - (8 * place + kind));
        due(name + ": tape", x.count(10), 0);
        due(name + ": acts", x.count(8), 1);
        due(name + ": states", x.count(1), 6);
        words(name, x, "car=3 cat=5 do=2 dog=7");
    }

    /** Unpacking asks the same of the hundredth machine as of the first, and ends soon whatever the bytes tell. */
    private static void unpackOften() {
        NumberWords x = Made.ofBytes(79);
        for (int i = 0; i < 40; i++) {
            due("pack again", x.pack(), 400);
            due("unpack again", x.unpack(), 100);
        }
        ringOfManyArcs();
    }

    private static void ringOfManyArcs() {
        int[] ring = new int[2 + 11 * 34];
        ring[0] = 11;
        int at = 2;
        for (int s = 0; s < 11; s++) {
            ring[at++] = 22;
            for (int letter = 1; letter <= 11; letter++) {
                ring[at++] = letter;
                ring[at++] = 0;
                ring[at++] = (s + 1) % 11;
            }
        }
        unpackFault(ring.length, 4, ring);
        // the same without a way back: ten to the tenth beginnings that no word has
        for (int i = at - 33; i < at; i++) {
            ring[i] = 0;
        }
        ring[at - 34] = 0;
        unpackFault(at - 33, 4, Arrays.copyOf(ring, at - 33));
        ring[at - 34] = 1;
        unpackFault(at - 32, 4, Arrays.copyOf(ring, at - 32));
    }

    private static int[] changed(int at, int to) {
        int[] bytes = ANIMALS_PACKED.clone();
        bytes[at] = to;
        return bytes;
    }

    private static void unpackFaults() {
        for (int n = 0; n < ANIMALS_PACKED.length; n++) {
            unpackFault(n, 1, Arrays.copyOf(ANIMALS_PACKED, n));
        }
        unpackFault(1, 1, 129);
        unpackFault(3, 1, 129, 129, 129);
        unpackFault(0, 2, 129, 129, 129, 129);
        unpackFault(0, 2, 129, 128, 128, 128, 0, 0, 0);
        unpackFault(0, 2, 0, 0, 0);
        unpackFault(0, 2, 0xea, 7);
        unpackFault(3, 1, 0xe9, 7, 0);
        unpackFault(1, 2, 1, 0xc0, 0x84, 0x3d, 0);
        unpackFault(5, 4, 1, 0xbf, 0x84, 0x3d, 0);
        unpackFault(2, 2, changed(2, 54));
        unpackFault(3, 2, changed(3, 0));
        unpackFault(3, 2, changed(3, 27));
        unpackFault(6, 2, changed(6, 3));
        unpackFault(6, 2, changed(6, 2));
        unpackFault(5, 2, changed(5, 6));
        unpackFault(4, 2, 2, 0, 2, 1, 0xc0, 0x84, 0x3d, 1, 1, 0);
        unpackFault(7, 2, 2, 0, 2, 1, 0, 1, 1, 0xc0, 0x84, 0x3d);
        unpackFault(3, 3, 1, 0, 0, 0);
        unpackFault(3, 3, 1, 0, 0, 255, 255, 255, 255);
        unpackFault(31, 3, Arrays.copyOf(ANIMALS_PACKED, 32));
        // of a word of no letter, of a ring, of numbers in more bytes than they need
        unpackFault(4, 4, 1, 0, 1, 0);
        unpackFault(6, 4, 1, 0, 2, 1, 0, 0);
        unpackFault(11, 4, 2, 0, 2, 1, 0, 1, 3, 0, 1, 0, 1);
        unpackFault(4, 4, 0x81, 0, 0, 0);
        unpackFault(3, 4, 1, 1, 0);
        // of a state to which none comes, of one that two could be, of outputs that stand too far behind
        unpackFault(10, 4, 3, 0, 2, 1, 0, 1, 1, 0, 1, 0);
        unpackFault(13, 4, 3, 0, 4, 1, 0, 1, 2, 0, 2, 1, 0, 1, 0);
        unpackFault(8, 4, 2, 0, 2, 1, 0, 1, 1, 3);
        unpackFault(8, 4, 2, 0, 2, 1, 3, 1, 1, 0);
        unpackFault(7, 4, 2, 0, 2, 1, 0, 1, 0);
        // numbered in another order, and with a state that goes nowhere
        unpackFault(12, 4, 3, 0, 2, 1, 0, 2, 1, 0, 2, 2, 0, 1);
        unpackFault(12, 4, 3, 0, 4, 1, 0, 1, 2, 0, 2, 1, 0, 0);
    }

    private static void count() {
        NumberWords x = Made.animals();
        int[] wants = {4, 6, 7, 2, 17, 0, 0, 0, 1, 0, 0, 8};
        for (int what = 0; what < wants.length; what++) {
            due("count(" + what + ")", x.count(what), wants[what]);
        }
        due("count(12)", x.count(12), NONE);
        due("count(-1)", x.count(-1), NONE);
        due("count(MIN)", x.count(Integer.MIN_VALUE), NONE);
        NumberWords y = Made.told("abcdefghij,bcdefghijk,cdefghijkl,defghijklm");
        due("beginnings", y.count(11), 41);
        due("states of words that share none but the end", y.count(1), 38);
    }
}
