import java.util.ArrayDeque;
import java.util.Arrays;
import java.util.List;

/** The document's terms (I, II, III), sentence by sentence, each with a test of its own. */
public final class TermsTest extends Sentences {
    private static final String CONSTANTS = "The constants:";

    public static void main(String[] args) {
        TermsTest test = new TermsTest();
        test.wordsAndLists();
        test.faultsOfLists();
        test.machine();
        test.statesByNumber();
        test.builder();
        test.acts();
        test.rules();
        test.likenessAndPieces();
        test.packed();
        test.faultsOfPlaces();
        test.faultsOfWholes();
        test.constants();
        test.close();
    }

    // ---- I

    private void wordsAndLists() {
        section("Terms I", "==== I. ", "==== II. ");
        says("WORDS have 1 to 10 small letters", () -> {
            NumberWords x = new NumberWords();
            for (String word : List.of("a", "z", "abcdefghij", "zzzzzzzzzz")) {
                Say.put(x, word, 7);
                due("number of " + word, Say.to(x, word).number(), 7);
            }
            for (String other : List.of("", "abcdefghijk", "A", "Z", "@", "[", "`", "{", "\u00e1", "\u00fa", "\0", "1", "aB",
                    "a-b", " a", "a ")) {
                due("put \"" + other + "\"", Say.put(x, other, 7), NONE);
            }
            for (String other : List.of("A", "Z", "@", "[", "`", "{", "\u00e1", "\0", "abcdefghijk")) {
                holds("\"" + other + "\" is no list", Say.to(x, other).list() < -2);
            }
            due("words", x.count(0), 4);
        });
        says("each a NUMBER (0 to 999999)", () -> {
            NumberWords x = new NumberWords();
            for (int number : new int[] {0, 1, 999998, 999999}) {
                due("put " + number, Say.put(x, "a", number), 2);
                due("number", Say.to(x, "a").number(), number);
            }
            for (int number : new int[] {-1, 1000000, Integer.MIN_VALUE, Integer.MAX_VALUE}) {
                due("put " + number, Say.put(x, "b", number), NONE);
            }
        });
        says("100 of them at most", () -> {
            NumberWords x = new NumberWords();
            for (int i = 0; i < 101; i++) {
                Say.put(x, Made.pairs(i, i + 1), 0);
                due("words", x.count(0), Math.min(i + 1, 100));
            }
        });
        says("They stand as in a book of words", () -> {
            words("in order", Made.told("b,aab,z,aa,ba,ab"), "aa=0 aab=0 ab=0 b=0 ba=0 z=0");
            NumberWords x = new NumberWords();
            Say.put(x, "b", 1);
            Say.put(x, "zz", 2);
            Say.put(x, "ab", 3);
            Say.put(x, "y", 4);
            words("put in another order", x, "ab=3 b=1 y=4 zz=2");
        });
        says("(a beginning of a WORD ahead of it)", () -> {
            words("beginnings", Made.told("doge,do,dog,d"), "d=0 do=0 dog=0 doge=0");
            words("of ten letters", Made.told("aaaaaaaaaa,aaaaaaaaa"), "aaaaaaaaa=0 aaaaaaaaaa=0");
        });
        says("RANK: how many stand ahead", () -> {
            NumberWords x = Made.animals();
            String[] order = {"car", "cat", "do", "dog"};
            for (int rank = 0; rank < order.length; rank++) {
                due("rank " + order[rank], Say.to(x, order[rank]).rank(), rank);
            }
        });
        says("A LIST is told by a text of at most 400 bytes", () -> {
            NumberWords x = new NumberWords();
            due("a number of 398 digits", Say.to(x, "a=" + "0".repeat(397) + "7").list(), 1);
            due("its last digit", x.value(0), 7);
            due("a word as the 400th byte", Say.to(x, "a" + " ".repeat(397) + ",b").list(), 2);
            due("a fault behind 400 bytes", Say.to(x, "a" + " ".repeat(398) + ",").list(), -2 - (8 * 400 + 1));
        });
        says("ITEM { , ITEM }", () -> {
            due("one", Say.to(new NumberWords(), "a").list(), 1);
            due("two", Say.to(new NumberWords(), "a,b").list(), 2);
            due("a hundred", Say.to(new NumberWords(), Made.pairs(0, 100)).list(), 100);
            listFault("", 0, 1);
            listFault("ab,", 3, 1);
            listFault(",ab", 0, 1);
            listFault("ab,,b", 3, 1);
            listFault("ab b", 3, 1);
        });
        says("ITEM: WORD [ = NUMBER ] (0 without)", () -> {
            NumberWords x = Made.told("a,b=5,c");
            words("told", x, "a=0 b=5 c=0");
            Say.to(x, "b").list();
            words("0 in place of a NUMBER", x, "a=0 b=0 c=0");
            listFault("=5", 0, 1);
            listFault("a=", 2, 1);
            listFault("a=b", 2, 1);
            listFault("a=1=2", 3, 1);
        });
        says("WORDS go on as far as small letters do", () -> {
            listFault("abC", 2, 1);
            listFault("ab1", 2, 1);
            listFault("ab c", 3, 1);
            for (String text : List.of("abc", "abc=0", "abc,b", "abc =0", "abc ")) {
                NumberWords x = Made.told(text);
                due("word of \"" + text + "\"", Say.to(x, "abc").number(), 0);
            }
        });
        says("NUMBERS as far as digits do", () -> {
            for (String text : List.of("a=0123456", "a=123456", "a=123456 ", "a=123456,b", "a=" + "0".repeat(90) + "123456")) {
                due("number of \"" + text + "\"", Made.told(text).value(0), 123456);
            }
            due("all digits", Made.told("a=987650,b=4321").value(0) + Made.told("a=4321").value(0), 991971);
            listFault("a=12x", 4, 1);
            listFault("a=1 2", 4, 1);
        });
        says("blanks (32) stand between as one likes", () -> {
            words("blanks", Made.told("  a  =  5  ,  b  ,  c=6  "), "a=5 b=0 c=6");
            for (int sign : new int[] {0, 9, 10, 13, 31, 33, 160}) {
                String other = String.valueOf((char) sign);
                listFault(other + "a", 0, 1);
                listFault("a" + other, 1, 1);
                listFault("a=" + other + "1", 2, 1);
                listFault("a=1" + other, 3, 1);
                listFault("a," + other + "b", 2, 1);
            }
        });
    }

    private void listFault(String text, int place, int kind) {
        due("list \"" + text + "\"", Say.to(new NumberWords(), text).list(), -2 - (8 * place + kind));
    }

    private void faultsOfLists() {
        says("FAULT of a text that is none: of the first place along it that is wrong", () -> {
            listFault("a,=,bb,bb,abcdefghijk", 2, 1);
            listFault("a,a,=,abcdefghijk", 2, 3);
            listFault("abcdefghijk,=,a,a", 0, 2);
            listFault("a=1000000,a,", 2, 2);
            listFault("abcdefghijkA", 0, 2);
            NumberWords x = Made.full();
            due("the 101st ahead of others", Say.to(x, "zz,aa,aa,").list(), -2 - 4);
            due("others ahead of the 101st", Say.to(x, "aa,aa,zz").list(), -2 - (8 * 3 + 3));
        });
        says("(0 the first byte)", () -> {
            due("a digit", Say.to(new NumberWords(), "1").list(), -3);
            due("eleven letters", Say.to(new NumberWords(), "abcdefghijk").list(), -4);
        });
        says("8 times the place and", () -> {
            for (int place : new int[] {1, 2, 31, 32, 127, 128, 399}) {
                due("blanks ahead", Say.to(new NumberWords(), " ".repeat(place) + "1").list(), -2 - 8 * place - 1);
            }
        });
        says("1 a byte that can't stand there", () -> {
            for (int sign = 0; sign < 256; sign++) {
                String next = String.valueOf((char) sign);
                boolean letter = sign >= 'a' && sign <= 'z';
                boolean digit = sign >= '0' && sign <= '9';
                bytesThere("", next, letter || sign == ' ');
                bytesThere("ab", next, letter || sign == ' ' || sign == '=' || sign == ',');
                bytesThere("ab ", next, sign == ' ' || sign == '=' || sign == ',');
                bytesThere("ab=", next, digit || sign == ' ');
                bytesThere("ab= ", next, digit || sign == ' ');
                bytesThere("ab=1", next, digit || sign == ' ' || sign == ',');
                bytesThere("ab=1 ", next, sign == ' ' || sign == ',');
                bytesThere("ab,", next, letter || sign == ' ');
                bytesThere("ab=1, ", next, letter || sign == ' ');
            }
        });
        says("or the text ends (the place behind its last byte)", () -> {
            for (String text : List.of("", " ", "   ", "a=", "a = ", "a,", "a=1,", "a , ", "a" + " ".repeat(398) + "=")) {
                listFault(text, text.length(), 1);
            }
        });
        says("2 a WORD of more than 10 letters", () -> {
            due("ten", Say.to(new NumberWords(), "abcdefghij").list(), 1);
            listFault("abcdefghijk", 0, 2);
            listFault("ab, abcdefghijk=1", 4, 2);
            listFault("a".repeat(400), 0, 2);
        });
        says("a NUMBER above 999999 (where it begins)", () -> {
            due("the greatest", Made.told("a=999999").value(0), 999999);
            due("the greatest behind noughts", Made.told("a=000999999").value(0), 999999);
            for (String number : List.of("1000000", "0001000000", "1000001", "9999990", "4294967296", "2147483648",
                    "18446744073709551616", "9".repeat(398))) {
                listFault("a=" + number, 2, 2);
            }
            listFault("a,b = 1000000", 6, 2);
            listFault("a=1000000x", 2, 2);
        });
        says("3 a WORD (where it begins) that the text has told already", () -> {
            listFault("ab,ab", 3, 3);
            listFault("ab=1, ab=2", 6, 3);
            listFault("b,ab,c,b", 7, 3);
            due("told by another text", Say.to(Made.told("ab"), "ab").list(), 1);
            due("a beginning of one told", Say.to(new NumberWords(), "ab,a,abc").list(), 3);
            due("told already, of the full", Say.to(Made.full(), "aa,aa").list(), -2 - (8 * 3 + 3));
        });
        says("4 a WORD (where it begins) with which there would be more than 100 in all", () -> {
            NumberWords x = Made.full();
            due("the 101st", Say.to(x, "zz").list(), -2 - 4);
            due("behind one that is there", Say.to(x, "aa, zz=1").list(), -2 - (8 * 4 + 4));
            due("those that are there", Say.to(x, "aa,dv").list(), 100);
            NumberWords y = Made.told(Made.pairs(0, 98));
            due("the second of two and the 101st", Say.to(y, "yy,yz,zz").list(), -2 - (8 * 6 + 4));
            due("98 and 2", Say.to(y, "yy,yz").list(), 100);
            due("101 in one text", Say.to(new NumberWords(), Made.pairs(0, 101)).list(), -2 - (8 * 300 + 4));
        });
        says("Of one place the least", () -> {
            due("too long and the 101st", Say.to(Made.full(), "zzzzzzzzzzz").list(), -2 - 2);
            due("the same behind another", Say.to(Made.full(), "aa,zzzzzzzzzzz").list(), -2 - (8 * 3 + 2));
            // what can't stand there, and would be too long, told already, too great or the 101st
            listFault("ab abcdefghijk", 3, 1);
            listFault("ab=1 abcdefghijk", 5, 1);
            listFault("ab ab", 3, 1);
            listFault("ab=1 1000000", 5, 1);
            due("the 101st that can't stand there", Say.to(Made.full(), "aa zz").list(), -2 - (8 * 3 + 1));
        });
    }

    private void bytesThere(String text, String next, boolean can) {
        int fault = -2 - (8 * text.length() + 1);
        int got = Say.to(new NumberWords(), text + next).list();
        holds((int) next.charAt(0) + " behind \"" + text + "\"", can ? got != fault : got == fault);
    }

    // ---- II

    private void machine() {
        section("Terms II", "==== II. ", "==== III. ");
        says("A BEGINNING: what some WORD begins with", () -> {
            NumberWords x = Made.animals();
            for (String beginning : List.of("c", "ca", "d")) {
                holds(beginning + " is one", Say.state(x, beginning) > 0);
            }
            for (String other : List.of("a", "o", "at", "og", "cb", "cars", "e")) {
                due("state " + other, Say.state(x, other), -2);
            }
        });
        says("(the whole WORD, too; nothing is one in any case)", () -> {
            NumberWords x = Made.animals();
            for (String word : List.of("car", "cat", "do", "dog")) {
                holds(word + " is one", Say.state(x, word) > 0);
            }
            due("nothing", Say.state(x, ""), 0);
            due("nothing, without words", Say.state(new NumberWords(), ""), 0);
            due("beginnings", x.count(11), 8);
            due("beginnings, without words", new NumberWords().count(11), 1);
        });
        says("LEAST of it: the least NUMBER of all WORDS that begin with it", () -> {
            NumberWords x = Made.told("ab=9,ac=4,b=7,ba=8");
            due("of nothing", x.count(3), 4);
            due("of a", x.arc(0, 0, 1), 0);
            due("of b, a word itself", x.arc(0, 1, 1), 3);
            due("of ab", x.arc(Say.state(x, "a"), 0, 1), 5);
            due("of ba", x.arc(Say.state(x, "b"), 0, 1), 1);
        });
        says("REST of it: what is left of each of these WORDS behind it", () -> {
            NumberWords x = Made.told("xa,xab,ya,yab,za,zabc");
            holds("x and y", Say.state(x, "x") == Say.state(x, "y"));
            holds("x and z", Say.state(x, "x") != Say.state(x, "z"));
            for (String list : List.of("xa,yb", "x,xa,ya", "xa,xab,yab", "xab,yac", "xab,xb,yab,yc", "xa,xb,ya", "xa,yaa")) {
                NumberWords other = Made.told(list);
                holds("other rests: " + list, Say.state(other, "x") != Say.state(other, "y"));
            }
            due("words left of x", x.about(Say.state(x, "x"), 1), 2);
            due("the longest left of z", x.about(Say.state(x, "z"), 2), 3);
            due("the shortest left of xab", x.about(Say.state(x, "xab"), 3), 0);
        });
        says("with its NUMBER less LEAST", () -> {
            NumberWords x = Made.told("xa=1,xb=5,ya=3,yb=7,za=3,zb=8");
            holds("4 more each", Say.state(x, "x") == Say.state(x, "y"));
            holds("5 more", Say.state(x, "x") != Say.state(x, "z"));
            due("the greatest of x", x.about(Say.state(x, "x"), 6), 4);
            due("the greatest of all", x.about(0, 6), 7);
        });
        says("THE MACHINE: a STATE for all BEGINNINGS of like RESTS (as few as can be)", () -> {
            due("words of like ends", Made.told("xab,yab,ab").count(1), 4);
            due("of like letters, other numbers", Made.told("ab=1,cb=999999").count(1), 3);
            due("of one letter", Made.told("a=1,b=2,c=3").count(1), 2);
            due("an end that goes on, one that does not", Made.told("a,ab").count(1), 3);
            due("of unlike ends", Made.told("xab,xac,yab,yad").count(1), 6);
            due("26 beginnings", Made.told("ax,bx,cx,dx,ex,fx,gx,hx,ix,jx,kx,lx,mx,nx,ox,px,qx,rx,sx,tx,ux,vx,wx,xx,yx,zx")
                    .count(1), 3);
            outputsAlone();
        });
        says("From a STATE an ARC goes for each letter with which one of its BEGINNINGS b goes on", () -> {
            NumberWords x = Made.animals();
            int[] arcs = {2, 1, 2, 0, 1, 1};
            for (int s = 0; s < arcs.length; s++) {
                due("arcs of " + s, x.arc(s, NONE, 0), arcs[s]);
            }
            due("arcs", x.count(2), 7);
            NumberWords all = Made.told("a,b,c,d,e,f,g,h,i,j,k,l,m,n,o,p,q,r,s,t,u,v,w,x,y,z");
            due("all letters", all.arc(0, NONE, 0), 26);
            due("z", all.arc(0, 25, 0), 26);
        });
        says("by letters", () -> {
            NumberWords x = Made.told("m,z,b,am,ab");
            int[] letters = {1, 2, 13, 26};
            for (int k = 0; k < letters.length; k++) {
                due("arc " + k, x.arc(0, k, 0), letters[k]);
            }
            due("b behind a", x.arc(Say.state(x, "a"), 0, 0), 2);
            due("m behind a", x.arc(Say.state(x, "a"), 1, 0), 13);
        });
        says("to the STATE of b with that", () -> {
            NumberWords x = Made.told("car,cat,do,dog,ba,bat");
            for (String beginning : List.of("c", "ca", "car", "cat", "d", "do", "dog", "b", "ba", "bat")) {
                int last = beginning.length() - 1;
                int from = Say.state(x, beginning.substring(0, last));
                int k = 0;
                while (x.arc(from, k, 0) != beginning.charAt(last) - 'a' + 1 && k < 26) {
                    k++;
                }
                due("arc to " + beginning, x.arc(from, k, 2), Say.state(x, beginning));
            }
        });
        says("its OUTPUT: LEAST of that less LEAST of b", () -> {
            NumberWords x = Made.told("aa=30,ab=20,b=17,ca=999999");
            due("to a", x.arc(0, 0, 1), 3);
            due("to b", x.arc(0, 1, 1), 0);
            due("to c", x.arc(0, 2, 1), 999982);
            due("a to aa", x.arc(Say.state(x, "a"), 0, 1), 10);
            due("a to ab", x.arc(Say.state(x, "a"), 1, 1), 0);
            due("c to ca", x.arc(Say.state(x, "c"), 0, 1), 0);
        });
        says("A STATE ENDS with the NUMBER of b less LEAST of b, if b is a WORD", () -> {
            NumberWords x = Made.told("a=9,ab=4,abc=5");
            due("nothing", x.about(0, 0), -2);
            due("a", x.about(1, 0), 5);
            due("ab", x.about(2, 0), 0);
            due("abc", x.about(3, 0), 0);
            due("states of unlike ends", Made.told("xa=1,xab=0,ya=2,yab=0").count(1), 6);
        });
        says("START: LEAST of nothing (0 without WORDS)", () -> {
            due("start", Made.told("b=9,a=12,c=999999").count(3), 9);
            due("start of the greatest", Made.told("a=999999").count(3), 999999);
            due("without words", new NumberWords().count(3), 0);
            NumberWords x = Made.told("a=9");
            Say.to(x, "a").cut();
            due("without words again", x.count(3), 0);
        });
        says("(A WORD's NUMBER is START, OUTPUTS along it and what it ENDS with, together.)", () -> {
            for (String list : List.of("cat=5,car=3,dog=7,do=2", "a=9,ab=4,abc=5,b=999999", "xa=1,xab=0,ya=2,yab=0,yb=77")) {
                NumberWords x = Made.told(list);
                for (int rank = 0; rank < x.count(0); rank++) {
                    due("along the word " + rank + " of " + list, along(x, rank), x.value(rank));
                }
            }
        });
    }

    /** Fifty beginnings go on by the same letters to the same state: what tells them apart is one output alone. */
    private void outputsAlone() {
        for (int step = 1; step <= 40; step++) {
            NumberWords x = new NumberWords();
            for (int from = 0; from < 50; from += 25) {
                StringBuilder list = new StringBuilder();
                for (int i = from; i < from + 25; i++) {
                    String begin = "" + (char) ('a' + i / 7) + (char) ('a' + i % 7);
                    list.append(i == from ? "" : ",").append(begin).append("a,");
                    list.append(begin).append("b=").append(1 + i * step);
                }
                due("list", Say.to(x, list.toString()).list(), 2 * from + 50);
            }
            due("states of unlike outputs, step " + step, x.count(1), 1 + 8 + 50 + 1);
        }
    }

    private static int along(NumberWords x, int rank) {
        int s = 0;
        int sum = x.count(3);
        for (int i = 0; i < x.word(rank, NONE); i++) {
            int k = 0;
            while (x.arc(s, k, 0) != x.word(rank, i) && k < 26) {
                k++;
            }
            sum += x.arc(s, k, 1);
            s = x.arc(s, k, 2);
        }
        return sum + x.about(s, 0);
    }

    private void statesByNumber() {
        says("STATES are numbered as they are first come to, if all WORDS are gone through in their order letter by letter", () -> {
            statesDue(Made.animals(), "c 1 ca 2 car 3 cat 3 d 4 do 5 dog 3");
            statesDue(Made.told("b,ab,abc"), "a 1 ab 2 abc 3 b 3");
            statesDue(Made.told("za,a,mza"), "a 1 m 2 mz 3 mza 1 z 3 za 1");
        });
        says("ROOT (the STATE of nothing) 0", () -> {
            due("of animals", Say.state(Made.animals(), ""), 0);
            due("of one word", Say.state(Made.told("z"), ""), 0);
            due("arcs to it", Made.animals().about(0, 4), 0);
        });
        says("Without WORDS there is ROOT alone, that has nothing", () -> {
            nothingIn(new NumberWords());
            NumberWords x = Made.told("ab=5");
            Say.to(x, "ab").cut();
            nothingIn(x);
        });
    }

    private void statesDue(NumberWords x, String wants) {
        String[] want = wants.split(" ");
        for (int i = 0; i < want.length; i += 2) {
            due("state " + want[i], Say.state(x, want[i]), Integer.parseInt(want[i + 1]));
        }
    }

    private void nothingIn(NumberWords x) {
        int[] wants = {0, 1, 0, 0, 0};
        for (int what = 0; what < wants.length; what++) {
            due("count(" + what + ")", x.count(what), wants[what]);
        }
        due("beginnings", x.count(11), 1);
        due("arcs", x.arc(0, NONE, 0), 0);
        due("the first arc", x.arc(0, 0, 0), NONE);
        int[] abouts = {-2, 0, -2, -2, 0, 0, -2, 1};
        for (int what = 0; what < abouts.length; what++) {
            due("about(0, " + what + ")", x.about(0, what), abouts[what]);
            due("about(1, " + what + ")", x.about(1, what), NONE);
        }
    }

    private void builder() {
        says("A BUILDER: WORDS are APPENDED, each behind the one ahead", () -> {
            NumberWords x = new NumberWords();
            due("b", Say.append(x, "b", 1), 2);
            due("b again", Say.append(x, "b", 1), -2);
            due("a", Say.append(x, "a", 1), -2);
            due("az", Say.append(x, "azzzzzzzzz", 1), -2);
            due("ba", Say.append(x, "ba", 1), 3);
            due("b, ahead of ba", Say.append(x, "b", 1), -2);
            due("c", Say.append(x, "c", 1), 4);
            x.finish();
            words("finished", x, "b=1 ba=1 c=1");
        });
        says("As long as it is not FINISHED", () -> {
            NumberWords x = Made.builderOf(3);
            due("open", x.count(6), 3);
            x.finish();
            due("open, finished", x.count(6), 0);
            due("closed, finished", x.count(7), 0);
            due("any word then", Say.append(x, "a", 0), 2);
        });
        says("STATES of the BEGINNINGS of its last WORD are OPEN, each for itself", () -> {
            NumberWords x = new NumberWords();
            Say.append(x, "ab", 1);
            due("open of ab", x.count(6), 3);
            due("closed of ab", x.count(7), 0);
            due("ab and bb, though a and b are of like rests", Say.append(x, "bb", 1), 5);
            due("open of bb", x.count(6), 3);
            due("closed of bb", x.count(7), 2);
            Say.append(x, "zzzzzzzzzz", 1);
            due("open of ten letters", x.count(6), 11);
            NumberWords y = new NumberWords();
            Say.append(y, "a", 1);
            due("a and ab", Say.append(y, "ab", 1), 3);
            due("open of a and ab", y.count(6), 3);
        });
        says("the others (of like RESTS one) are CLOSED", () -> {
            NumberWords x = new NumberWords();
            Say.append(x, "ab", 1);
            Say.append(x, "bb", 5);
            due("bb is closed as ab is", Say.append(x, "c", 1), 4);
            due("closed", x.count(7), 2);
            NumberWords y = new NumberWords();
            for (String item : List.of("ab 1", "ac 2", "bb 5", "bc 6", "cb 5", "cc 7")) {
                Say.append(y, item.substring(0, 2), item.charAt(3) - '0');
            }
            due("closed, cc open", y.count(7), 2);
            due("cb, cc are of another rest", Say.append(y, "d", 1), 5);
            due("closed", y.count(7), 3);
        });
    }

    private void acts() {
        says("ACTS: a LIST is PUT (a WORD that is there gets that NUMBER)", () ->
                actDue(x -> Say.to(x, "cat=8,eel").list(), "car=3 cat=8 dog=7 eel=0 ox=9", 0));
        says("a WORD is PUT", () -> {
            actDue(x -> Say.put(x, "eel", 8), "car=3 cat=5 dog=7 eel=8 ox=9", 0);
            actDue(x -> Say.put(x, "cat", 8), "car=3 cat=8 dog=7 ox=9", 0);
        });
        says("CUT (it is no more)", () -> {
            actDue(x -> Say.to(x, "cat").cut(), "car=3 dog=7 ox=9", 0);
            NumberWords x = Made.busy();
            Say.to(x, "cat").cut();
            due("number", Say.to(x, "cat").number(), -2);
            due("state", Say.state(x, "cat"), -2);
        });
        says("RAISED (all NUMBERS)", () -> {
            actDue(x -> x.raise(4), "car=7 cat=9 dog=11 ox=13", 0);
            actDue(x -> x.raise(-3), "car=0 cat=2 dog=4 ox=6", 0);
        });
        says("FINISHED (THE MACHINE has the BUILDER's WORDS, that has none then)", () ->
                actDue(NumberWords::finish, "ab=4 b=4 cb=1 d=1", 4));
        says("MERGED, MET, LESS, UNPACKED", () -> {
            actDue(x -> x.join(1, 0, 0), "car=6 cat=10 do=2 dog=14 ox=9", 0);
            actDue(x -> x.join(1, 1, 0), "car=6 cat=10 dog=14", 0);
            actDue(x -> x.join(1, 2, 3), "ox=9", 0);
            actDue(x -> Say.to(x, 2, 7, 2, 1, 0, 1, 1, 0).unpack(), "a=7", 0);
        });
        says("The last 12 can be UNDONE", () -> {
            for (int acts = 1; acts <= 60; acts++) {
                NumberWords x = new NumberWords();
                for (int i = 1; i <= acts; i++) {
                    Say.put(x, "a", i);
                    due("acts that can be undone", x.count(8), Math.min(i, 12));
                }
                for (int back = 1; back <= Math.min(acts, 12); back++) {
                    due("undo", x.undo(), Math.min(acts, 12) - back);
                    words(back + " undone of " + acts, x, acts == back ? "" : "a=" + (acts - back));
                }
                due("undo of one more", x.undo(), NONE);
            }
        });
        says("the last first", () -> {
            NumberWords x = new NumberWords();
            Say.put(x, "a", 1);
            Say.put(x, "b", 2);
            Say.to(x, "a").cut();
            x.undo();
            words("a is back", x, "a=1 b=2");
            x.undo();
            words("b is gone", x, "a=1");
            x.undo();
            words("a is gone", x, "");
            // what was done in place of what was undone is undone ahead of what is older
            ArrayDeque<Integer> past = new ArrayDeque<>(List.of(-1));
            for (int i = 0; i < 100; i++) {
                if (i % 7 < 4 || past.size() < 5) {
                    Say.put(x, "a", i);
                    past.addLast(i);
                } else {
                    x.undo();
                    past.removeLast();
                }
                due("after " + i + " steps", Say.to(x, "a").number(), past.getLast());
            }
        });
        says("(the BUILDER, too)", () -> {
            NumberWords x = Made.busy();
            x.finish();
            due("without words", x.count(5), 0);
            x.undo();
            due("with its words", x.count(5), 4);
            due("open", x.count(6), 2);
            due("closed", x.count(7), 2);
            due("behind its last word alone", Say.append(x, "d", 1), -2);
            x.finish();
            words("finished again", x, "ab=4 b=4 cb=1 d=1");
            NumberWords y = new NumberWords();
            Say.append(y, "abc", 1);
            Say.put(y, "z", 1);
            due("abc and b", Say.append(y, "b", 1), 5);
            y.undo();
            due("words as ahead of z", y.count(5), 1);
            due("open as ahead of z", y.count(6), 4);
            due("closed as ahead of z", y.count(7), 0);
        });
        says("SHELVES 0 to 2: THE MACHINE's WORDS are KEPT", () -> {
            for (int shelf = 0; shelf < 3; shelf++) {
                NumberWords x = Made.animals();
                x.keep(shelf);
                Say.to(x, "b=1").list();
                Say.to(x, "cat").cut();
                x.join(shelf, 1, 4);
                words("met with those kept on " + shelf, x, "car=3 do=2 dog=7");
                x.join(shelf, 0, 4);
                words("merged with those kept on " + shelf, x, "car=3 cat=5 do=2 dog=7");
            }
            due("shelf 3", Made.animals().keep(3), NONE);
            due("shelf -1", Made.animals().keep(-1), NONE);
        });
    }

    private interface Act {
        int on(NumberWords x);
    }

    /** The act makes the words so, with so many words in the builder less, and undone all is as it was. */
    private void actDue(Act act, String want, int builderLoses) {
        NumberWords x = Made.busy();
        String before = Say.words(x);
        int builder = x.count(5);
        int acts = x.count(8);
        act.on(x);
        words("done", x, want);
        due("acts", x.count(8), acts + 1);
        due("builder", x.count(5), builder - builderLoses);
        due("undo", x.undo(), acts);
        words("undone", x, before);
        due("builder, undone", x.count(5), builder);
    }

    private void rules() {
        says("RULES (a the NUMBER here, b that of what is KEPT)", () -> {
            NumberWords x = Made.told("x=4");
            x.keep(2);
            Say.put(x, "x", 9);
            x.join(2, 0, 3);
            words("a", x, "x=9");
            x.join(2, 0, 4);
            words("b", x, "x=4");
        });
        says("0 a and b, 999999 at most", () -> {
            int[][] sums = {{2, 7, 9}, {0, 0, 0}, {500000, 499998, 999998}, {500000, 499999, 999999}, {500000, 500000, 999999},
                {999999, 0, 999999}, {999999, 1, 999999}, {999999, 999999, 999999}};
            for (int[] sum : sums) {
                ruleDue(0, sum[0], sum[1], sum[2]);
            }
        });
        says("1 the lesser", () -> {
            ruleDue(1, 2, 7, 2);
            ruleDue(1, 7, 2, 2);
            ruleDue(1, 5, 5, 5);
        });
        says("2 the greater", () -> {
            ruleDue(2, 2, 7, 7);
            ruleDue(2, 7, 2, 7);
            ruleDue(2, 5, 5, 5);
        });
        says("3 a; 4 b", () -> {
            ruleDue(3, 2, 7, 2);
            ruleDue(3, 7, 2, 7);
            ruleDue(4, 2, 7, 7);
            ruleDue(4, 7, 2, 2);
        });
        says("MERGED: WORDS of both; of those in both the NUMBER by the RULE", () -> {
            for (int rule = 0; rule < 5; rule++) {
                NumberWords x = Made.joinable(0);
                due("join", x.join(0, 0, rule), 6);
                words("merged by " + rule, x, "a=1 ab=2 b=" + new int[] {14, 5, 9, 5, 9}[rule] + " bc=7 c=3 d=6");
            }
        });
        says("MET: WORDS in both, by the RULE", () -> {
            for (int rule = 0; rule < 5; rule++) {
                NumberWords x = Made.joinable(0);
                due("join", x.join(0, 1, rule), 1);
                words("met by " + rule, x, "b=" + new int[] {14, 5, 9, 5, 9}[rule]);
            }
            NumberWords none = Made.told("x");
            none.keep(1);
            Say.to(none, "x").cut();
            Say.put(none, "y", 1);
            due("none in both", none.join(1, 1, 0), 0);
        });
        says("LESS: WORDS here that are not there", () -> {
            NumberWords x = Made.joinable(0);
            due("join", x.join(0, 2, 3), 3);
            words("less", x, "a=1 bc=7 d=6");
            x.keep(0);
            due("less all", x.join(0, 2, 3), 0);
        });
    }

    private void ruleDue(int rule, int a, int b, int want) {
        for (int how = 0; how < 2; how++) {
            NumberWords x = new NumberWords();
            Say.put(x, "x", b);
            x.keep(0);
            Say.put(x, "x", a);
            x.join(0, how, rule);
            due("rule " + rule + " of " + a + " and " + b, x.value(0), want);
        }
    }

    // ---- III

    private void likenessAndPieces() {
        section("Terms III", "==== III. ", CONSTANTS);
        says("FAR: the fewest letters to be changed, put in or left out, by which a text becomes a WORD", () -> {
            farDue("cat", "cat", 0);
            farDue("cot", "cat", 1);
            farDue("ct", "cat", 1);
            farDue("ca", "cat", 1);
            farDue("at", "cat", 1);
            farDue("cart", "cat", 1);
            farDue("cats", "cat", 1);
            farDue("scat", "cat", 1);
            farDue("act", "cat", 2);
            farDue("tac", "cat", 2);
            farDue("dog", "cat", 3);
            farDue("", "cat", 3);
            farDue("", "ca", 2);
            farDue("atcs", "cats", 2);
            farDue("abcdefghij", "bcdefghija", 2);
            farDue("kitten", "sitting", 3);
            farDue("abcdefghij", "abcdefg", 3);
            farDue("abcdefg", "abcdefghij", 3);
            farDue("", "cats", 4);
            farDue("abab", "baba", 2);
        });
        says("A PATTERN: letters", () -> {
            likeDue("cat", "cat", true);
            likeDue("cat", "ca", false);
            likeDue("cat", "cats", false);
            likeDue("cat", "cut", false);
        });
        says("? (one letter, any)", () -> {
            likeDue("c?t", "cat", true);
            likeDue("c?t", "czt", true);
            likeDue("c?t", "ct", false);
            likeDue("c?t", "caat", false);
            likeDue("?", "a", true);
            likeDue("?", "ab", false);
            likeDue("cat?", "cat", false);
            likeDue("?cat", "cat", false);
            likeDue("??????????", "abcdefghij", true);
        });
        says("* (letters, any many, perhaps none)", () -> {
            likeDue("c*t", "ct", true);
            likeDue("c*t", "cat", true);
            likeDue("c*t", "caaaaaaaat", true);
            likeDue("c*t", "ctt", true);
            likeDue("c*t", "cats", false);
            likeDue("*", "a", true);
            likeDue("cat*", "cat", true);
            likeDue("*cat", "cat", true);
            likeDue("**a**", "a", true);
            likeDue("*?", "a", true);
            likeDue("*?*?*", "a", false);
            likeDue("*ab*ab", "abab", true);
            likeDue("*ab*ab", "ab", false);
        });
        says("12 signs at most", () -> {
            likeDue("*a*a*a*a*a*a", "aaaaaa", true);
            likeDue("a" + "*".repeat(11), "abcdefghij", true);
            likeDue("*".repeat(11) + "a", "a", true);
            due("13 signs", Say.to(Made.told("a"), "*".repeat(13)).like(NONE), NONE);
            due("13 signs of letters", Say.to(Made.told("a"), "abcdefghijklm").like(NONE), NONE);
        });
        says("BEST by a beginning: WORDS that begin with it, by NUMBERS, the greatest first, of like ones in their order", () -> {
            NumberWords x = Made.told("a=5,ab=9,abc=5,aca=5,b=999999,ba=0,c=0");
            bestDue(x, "", 4, 1, 0, 2, 3, 5, 6);
            bestDue(x, "a", 1, 0, 2, 3);
            bestDue(x, "ab", 1, 2);
            bestDue(x, "ba", 5);
            bestDue(x, "bb");
        });
        says("PIECES of a text of letters (60 at most): WORDS that make it one behind the other", () -> {
            NumberWords x = Made.told("ab=1,c=2,bc=4,abcabcabca=8");
            piecesDue(x, "abc", 2, 3, 2, 3, 1);
            piecesDue(x, "cab", 2, 3, 2, 3, 1);
            piecesDue(x, "acb", 0, 0, -2, -2, 0);
            piecesDue(x, "ab".repeat(30), 30, 60, 30, 30, 1);
            due("60", Say.to(x, "c".repeat(60)).pieces(2), 60);
            due("61", Say.to(x, "c".repeat(61)).pieces(2), NONE);
        });
        says("LONGEST: from the left always the longest WORD that stands there, till none does", () -> {
            NumberWords x = Made.told("a,ab,abc,cd,d,abcdefghij");
            piecesDue(x, "abcd", 2, 4, 2, 0, 2);
            piecesDue(x, "abcdefghij", 1, 10, 1, 0, 1);
            piecesDue(x, "abcdefghi", 2, 4, -2, -2, 0);
            NumberWords y = Made.told("ab,abc,cd");
            piecesDue(y, "abcd", 1, 3, 2, 0, 1);
            piecesDue(y, "xabcd", 0, 0, -2, -2, 0);
            piecesDue(y, "abxab", 1, 2, -2, -2, 0);
            NumberWords z = Made.told("abcdefghij=5,d=7");
            piecesDue(z, "abcdefghijd", 2, 11, 2, 12, 1);
            piecesDue(z, "abcdefghijx", 1, 10, -2, -2, 0);
        });
        says("FEWEST; BEST: the greatest sum of NUMBERS; WAYS", () -> {
            NumberWords x = Made.told("a=1,aa=0,aaa=9,ab=7,b=3");
            piecesDue(x, "aaab", 2, 4, 2, 12, 6);
            piecesDue(x, "aaaa", 2, 4, 2, 10, 7);
            piecesDue(Made.told("abc=1,abcd=0,d=9,ab=5,cd=4"), "abcd", 1, 4, 1, 10, 3);
        });
    }

    private void farDue(String text, String word, int far) {
        NumberWords x = Made.told(word);
        for (int d = 0; d <= 3; d++) {
            due("\"" + text + "\" to " + word + " by " + d, Say.to(x, text).near(d, NONE), far <= d ? 1 : 0);
        }
    }

    private void likeDue(String pattern, String word, boolean is) {
        due(pattern + " and " + word, Say.to(Made.told(word), pattern).like(NONE), is ? 1 : 0);
    }

    private void bestDue(NumberWords x, String beginning, int... ranks) {
        for (int k = 0; k < ranks.length; k++) {
            due("the " + k + "th best by \"" + beginning + "\"", Say.to(x, beginning).best(k), ranks[k]);
        }
        due("no more by \"" + beginning + "\"", Say.to(x, beginning).best(ranks.length), -2);
    }

    private void piecesDue(NumberWords x, String text, int... wants) {
        for (int what = 0; what < wants.length; what++) {
            due("pieces(" + what + ") of " + text, Say.to(x, text).pieces(what), wants[what]);
        }
    }

    private void packed() {
        says("PACKED: a row of NUMBERS, each as bytes of seven bits, the lowest first, each but the last 128 more", () -> {
            int[][] starts = {{0, 0}, {1, 1}, {127, 127}, {128, 128, 1}, {129, 129, 1}, {255, 255, 1}, {16383, 255, 127},
                {16384, 128, 128, 1}, {16511, 255, 128, 1}, {999999, 0xbf, 0x84, 0x3d}};
            for (int[] start : starts) {
                NumberWords x = new NumberWords();
                Say.put(x, "a", start[0]);
                x.pack();
                int[] want = new int[7 + start.length - 1];
                want[0] = 2;
                System.arraycopy(start, 1, want, 1, start.length - 1);
                System.arraycopy(new int[] {2, 1, 0, 1, 1, 0}, 0, want, start.length, 6);
                bytes("a=" + start[0], x, want);
                due("unpacked a=" + start[0], x.unpack(), 1);
                words("unpacked", x, "a=" + start[0]);
            }
        });
        says("how many STATES; START", () -> {
            packedDue("", 1, 0, 0);
            packedDue("abc=9", 4, 9, 2, 1, 0, 1, 2, 2, 0, 2, 2, 3, 0, 3, 1, 0);
            packedDue("abcdefghij=300", 11, 172, 2, 2, 1, 0, 1, 2, 2, 0, 2, 2, 3, 0, 3, 2, 4, 0, 4, 2, 5, 0, 5, 2, 6, 0, 6, 2, 7, 0,
                    7, 2, 8, 0, 8, 2, 9, 0, 9, 2, 10, 0, 10, 1, 0);
        });
        says("for each STATE, from 0 on: 2 * its ARCS, and 1 more if it ENDS", () -> {
            packedDue("a,b,c,ab", 3, 0, 6, 1, 0, 1, 2, 0, 2, 3, 0, 2, 3, 0, 2, 0, 2, 1, 0);
            NumberWords all = Made.told("a,aa,ab,ac,ad,ae,af,ag,ah,ai,aj,ak,al,am,an,ao,ap,aq,ar,as,at,au,av,aw,ax,ay,az");
            due("bytes", all.pack(), 2 + 4 + 2 + 3 * 26 + 2);
            due("26 arcs and an end", all.octet(6), 53);
        });
        says("what it ENDS with, if it does", () ->
                packedDue("a=200,ab=0", 3, 0, 2, 1, 0, 1, 3, 200, 1, 2, 0, 2, 1, 0));
        says("for each ARC its letter (1 for a), its OUTPUT, its STATE", () -> {
            packedDue("a=1,z=301", 2, 1, 4, 1, 0, 1, 26, 172, 2, 1, 1, 0);
            packedDue("cat=5,car=3,dog=7,do=2", 6, 2, 4, 3, 1, 1, 4, 0, 4, 2, 1, 0, 2, 4, 18, 0, 3, 20, 2, 3, 1, 0, 2, 15, 0, 5,
                    3, 0, 7, 5, 3);
        });
        says("Its bytes come to the TAPE (in place of it), if there are 400 at most", () -> {
            NumberWords x = Say.to(Made.told("a"), "x".repeat(400));
            due("in place of 400", x.pack(), 8);
            bytes("packed", x, 2, 0, 2, 1, 0, 1, 1, 0);
            due("399", Made.ofBytes(78).pack(), 399);
            due("400", Made.ofBytes(79).pack(), 400);
            due("401", Made.ofBytes(80).pack(), -2);
        });
    }

    private void packedDue(String list, int... want) {
        NumberWords x = list.isEmpty() ? new NumberWords() : Made.told(list);
        due("pack of " + list, x.pack(), want.length);
        bytes("pack of " + list, x, want);
    }

    private void packFault(int place, int kind, int... bytes) {
        due("unpack " + Arrays.toString(bytes), Say.to(new NumberWords(), bytes).unpack(), -2 - (8 * place + kind));
    }

    private void unpacked(int words, int... bytes) {
        due("unpack " + Arrays.toString(bytes), Say.to(new NumberWords(), bytes).unpack(), words);
    }

    private void faultsOfPlaces() {
        says("FAULT of bytes that are none: 8 times the place (where a NUMBER begins) and", () -> {
            packFault(0, 2, 0, 0, 0);
            packFault(1, 2, 1, 0xc0, 0x84, 0x3d, 0);
            packFault(2, 2, 1, 0, 54);
            packFault(2, 2, 1, 0, 182, 128, 0);
            packFault(4, 2, 2, 128, 1, 4, 27, 0, 1);
        });
        says("1 the bytes end within a NUMBER", () -> {
            packFault(1, 1, 129);
            packFault(2, 1, 129, 129);
            packFault(3, 1, 129, 129, 129);
            packFault(2, 1, 2, 255);
            packFault(9, 1, 2, 0, 2, 1, 0, 1, 1, 255, 255);
        });
        says("or ahead of one that must come", () -> {
            packFault(0, 1);
            int[] whole = {3, 0, 2, 1, 0, 1, 3, 5, 2, 0, 2, 1, 0};
            unpacked(2, whole);
            for (int n = 0; n < whole.length; n++) {
                packFault(n, 1, Arrays.copyOf(whole, n));
            }
        });
        says("(both: the place behind the last byte)", () -> {
            packFault(5, 1, 2, 0, 2, 1, 128);
            packFault(5, 1, 2, 0, 2, 1, 0);
        });
        says("2 a NUMBER that is not as told: of more than 4 bytes", () -> {
            packFault(0, 2, 129, 128, 128, 128, 0);
            packFault(1, 2, 1, 128, 128, 128, 128, 0, 0);
            packFault(2, 2, 1, 0, 255, 255, 255, 255, 127);
            // four bytes that tell of a fifth are enough, as it is the first place that is wrong
            packFault(0, 2, 129, 129, 129, 129);
            // four bytes are not too many, but more than it is packed to
            packFault(6, 4, 129, 128, 128, 0, 0, 0);
        });
        says("STATES 1 to 1001", () -> {
            packFault(0, 2, 0);
            packFault(0, 2, 0xea, 7);
            packFault(0, 2, 0xff, 0xff, 0xff, 0x7f);
            packFault(1, 1, 1);
            packFault(2, 1, 0xe9, 7);
        });
        says("START, OUTPUTS, ENDS 0 to 999999", () -> {
            unpacked(1, 2, 0xbf, 0x84, 0x3d, 2, 1, 0, 1, 1, 0);
            packFault(1, 2, 2, 0xc0, 0x84, 0x3d, 2, 1, 0, 1, 1, 0);
            unpacked(2, 2, 0, 4, 1, 0, 1, 2, 0xbf, 0x84, 0x3d, 1, 1, 0);
            packFault(7, 2, 2, 0, 4, 1, 0, 1, 2, 0xc0, 0x84, 0x3d, 1, 1, 0);
            unpacked(2, 3, 0, 2, 1, 0, 1, 3, 0xbf, 0x84, 0x3d, 2, 0, 2, 1, 0);
            packFault(7, 2, 3, 0, 2, 1, 0, 1, 3, 0xc0, 0x84, 0x3d, 2, 0, 2, 1, 0);
        });
        says("53 at most of ARCS", () -> {
            int[] most = new int[88];
            System.arraycopy(new int[] {3, 0, 2, 1, 0, 1, 53, 0}, 0, most, 0, 8);
            for (int i = 0; i < 26; i++) {
                most[8 + 3 * i] = i + 1;
                most[8 + 3 * i + 2] = 2;
            }
            most[86] = 1;
            unpacked(27, most);
            most[6] = 54;
            packFault(6, 2, most);
            packFault(2, 2, 1, 0, 54);
            packFault(2, 2, 1, 0, 55);
            packFault(2, 2, 1, 0, 127);
            packFault(2, 2, 1, 0, 128, 1);
        });
        says("a letter 1 to 26", () -> {
            unpacked(1, 2, 0, 2, 1, 0, 1, 1, 0);
            unpacked(1, 2, 0, 2, 26, 0, 1, 1, 0);
            packFault(3, 2, 2, 0, 2, 0, 0, 1, 1, 0);
            packFault(3, 2, 2, 0, 2, 27, 0, 1, 1, 0);
            packFault(3, 2, 2, 0, 2, 127);
            packFault(3, 2, 2, 0, 2, 129, 1, 0, 1, 1, 0);
        });
        says("and above the one ahead", () -> {
            unpacked(2, 2, 0, 4, 5, 0, 1, 6, 0, 1, 1, 0);
            packFault(6, 2, 2, 0, 4, 5, 0, 1, 5, 0, 1, 1, 0);
            packFault(6, 2, 2, 0, 4, 5, 0, 1, 4, 0, 1, 1, 0);
            // of another state any letter may be the first
            unpacked(1, 3, 0, 2, 5, 0, 1, 2, 5, 0, 2, 1, 0);
            unpacked(1, 3, 0, 2, 5, 0, 1, 2, 1, 0, 2, 1, 0);
        });
        says("a STATE that there is", () -> {
            packFault(5, 2, 2, 0, 2, 1, 0, 2, 1, 0);
            packFault(5, 2, 2, 0, 2, 1, 0, 255, 255, 127, 1, 0);
            packFault(5, 2, 1, 0, 2, 1, 0, 1);
            packFault(5, 2, 1, 0, 2, 1, 0, 127);
        });
        says("3 bytes behind all (the first)", () -> {
            packFault(3, 3, 1, 0, 0, 0);
            packFault(3, 3, 1, 0, 0, 255, 255, 255, 255, 255, 255);
            packFault(8, 3, 2, 0, 2, 1, 0, 1, 1, 0, 2, 0, 2, 1, 0, 1, 1, 0);
        });
    }

    private void faultsOfWholes() {
        says("Of one place the least; if there is none: 4 (the place behind the last byte): what it tells is not as told above",
                () -> {
            packFault(3, 4, 1, 1, 0);
            packFault(6, 4, 1, 0, 2, 1, 0, 0);
            // as much behind the last byte: what ends too soon is 1, not 4
            packFault(5, 1, 1, 0, 2, 1, 0);
            packFault(6, 3, 1, 0, 2, 1, 0, 0, 0);
            packFault(3, 2, 1, 0, 2, 27, 0, 0);
        });
        says("a ring", () -> {
            packFault(6, 4, 1, 0, 2, 1, 0, 0);
            packFault(11, 4, 2, 0, 2, 1, 0, 1, 3, 0, 1, 0, 1);
            packFault(10, 4, 2, 0, 2, 1, 0, 1, 2, 1, 0, 0);
            packFault(12, 4, 3, 0, 2, 1, 0, 1, 1, 0, 2, 1, 0, 2);
            int[] many = manyRings();
            packFault(many.length, 4, many);
        });
        says("a WORD of no letter", () -> {
            packFault(4, 4, 1, 0, 1, 0);
            packFault(9, 4, 2, 0, 3, 0, 1, 0, 1, 1, 0);
        });
        says("or of more than 10", () -> {
            unpacked(1, chain(10));
            int[] eleven = chain(11);
            packFault(eleven.length, 4, eleven);
            int[] ninety = chain(90);
            packFault(ninety.length, 4, ninety);
            // ten to the tenth beginnings, all of which go on too far or to no word
            int[] tooFar = manyArcs(11);
            packFault(tooFar.length, 4, tooFar);
            int[] noWord = manyArcs(10);
            packFault(noWord.length, 4, noWord);
        });
        says("more than 100 WORDS", () -> {
            unpacked(100, fan(25, false));
            int[] more = fan(25, true);
            packFault(more.length, 4, more);
            more = fan(26, false);
            packFault(more.length, 4, more);
        });
        says("a NUMBER above 999999", () -> {
            unpacked(2, 2, 0xbe, 0x84, 0x3d, 4, 1, 0, 1, 2, 1, 1, 1, 0);
            packFault(13, 4, 2, 0xbf, 0x84, 0x3d, 4, 1, 0, 1, 2, 1, 1, 1, 0);
            unpacked(2, 3, 0xbe, 0x84, 0x3d, 2, 1, 0, 1, 3, 1, 2, 0, 2, 1, 0);
            packFault(15, 4, 3, 0xbf, 0x84, 0x3d, 2, 1, 0, 1, 3, 1, 2, 0, 2, 1, 0);
        });
        says("or not what that is PACKED to", () -> {
            // a number in more bytes than it needs, START without words
            packFault(4, 4, 129, 0, 0, 0);
            packFault(3, 4, 1, 1, 0);
            packFault(9, 4, 2, 128, 0, 2, 1, 0, 1, 1, 0);
            // a state to which none comes, two states of like rests, one from which no word goes on
            packFault(10, 4, 3, 0, 2, 1, 0, 1, 1, 0, 1, 0);
            packFault(13, 4, 3, 0, 4, 1, 0, 1, 2, 0, 2, 1, 0, 1, 0);
            packFault(12, 4, 3, 0, 4, 1, 0, 1, 2, 0, 2, 1, 0, 0);
            packFault(7, 4, 2, 0, 2, 1, 0, 1, 0);
            // numbered in another order
            packFault(12, 4, 3, 0, 2, 1, 0, 2, 1, 0, 2, 2, 0, 1);
            // outputs that could be further ahead
            packFault(8, 4, 2, 0, 2, 1, 0, 1, 1, 3);
            packFault(8, 4, 2, 0, 2, 1, 3, 1, 1, 0);
            packFault(11, 4, 2, 0, 4, 1, 1, 1, 2, 2, 1, 1, 0);
        });
    }

    /** A machine of one word of so many letters. */
    private static int[] chain(int letters) {
        int[] bytes = new int[2 + 4 * letters + 2];
        bytes[0] = letters + 1;
        for (int i = 0; i < letters; i++) {
            System.arraycopy(new int[] {2, 1, 0, i + 1}, 0, bytes, 2 + 4 * i, 4);
        }
        bytes[2 + 4 * letters] = 1;
        return bytes;
    }

    /** Words of so many first letters, each with a, b, c or d behind it; and z, if it is wanted. */
    private static int[] fan(int firsts, boolean withZ) {
        int arcs = firsts + (withZ ? 1 : 0);
        int[] bytes = new int[3 + 3 * arcs + 1 + 3 * 4 + 2];
        bytes[0] = 3;
        bytes[2] = 2 * arcs;
        for (int i = 0; i < arcs; i++) {
            bytes[3 + 3 * i] = i + 1;
            bytes[3 + 3 * i + 2] = i < firsts ? 1 : 2;
        }
        int at = 3 + 3 * arcs;
        bytes[at] = 8;
        for (int i = 0; i < 4; i++) {
            bytes[at + 1 + 3 * i] = i + 1;
            bytes[at + 1 + 3 * i + 2] = 2;
        }
        bytes[at + 13] = 1;
        return bytes;
    }

    /** Six states, from each of which many arcs go to all of them: no walk along all of these would end. */
    private static int[] manyRings() {
        int[] bytes = new int[2 + 6 * (1 + 3 * 21)];
        bytes[0] = 6;
        int at = 2;
        for (int s = 0; s < 6; s++) {
            bytes[at++] = 2 * 21;
            for (int i = 0; i < 21; i++) {
                System.arraycopy(new int[] {i + 1, 0, i % 6}, 0, bytes, at, 3);
                at += 3;
            }
        }
        return bytes;
    }

    /** So many states from each of which eleven arcs go to the next; from the last none goes. */
    private static int[] manyArcs(int states) {
        int[] bytes = new int[2 + states * 34 + 1];
        bytes[0] = states + 1;
        for (int s = 0; s < states; s++) {
            bytes[2 + 34 * s] = 22;
            for (int i = 0; i < 11; i++) {
                System.arraycopy(new int[] {i + 1, 0, s + 1}, 0, bytes, 3 + 34 * s + 3 * i, 3);
            }
        }
        return bytes;
    }

    private void constants() {
        section("Constants", CONSTANTS, "## Promise 1");
        says("`NONE = -1`: None.", () -> due("NONE", NumberWords.NONE, -1));
    }
}
