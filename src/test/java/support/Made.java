/** Objects that tests begin with. */
final class Made {
    private Made() {
    }

    static NumberWords told(String list) {
        NumberWords x = new NumberWords();
        if (Say.to(x, list).list() < 0) {
            throw new IllegalStateException("no list: " + list);
        }
        return x;
    }

    static NumberWords animals() {
        return told("cat=5,car=3,dog=7,do=2");
    }

    /** Words of two letters by their places among all of them: aa, ab, .. */
    static String pairs(int from, int to) {
        StringBuilder list = new StringBuilder();
        for (int i = from; i < to; i++) {
            list.append(i == from ? "" : ",").append((char) ('a' + i / 26)).append((char) ('a' + i % 26));
        }
        return list.toString();
    }

    /** 100 words of two letters: aa, ab, .. dv. */
    static NumberWords full() {
        return told(pairs(0, 100));
    }

    /** The first words of two letters in the builder, each with its place as its number. */
    static NumberWords builderOf(int many) {
        NumberWords x = new NumberWords();
        for (int i = 0; i < many; i++) {
            Say.append(x, pairs(i, i + 1), i);
        }
        return x;
    }

    /** Something of all that an object can have: words, acts, a builder, something kept, bytes. */
    static NumberWords busy() {
        NumberWords x = animals();
        x.keep(1);
        Say.append(x, "ab", 4);
        Say.append(x, "b", 4);
        Say.put(x, "ox", 9);
        Say.append(x, "cb", 1);
        Say.append(x, "d", 1);
        Say.to(x, "do").cut();
        return Say.to(x, "tape!");
    }

    /** Here a=1 b=5 bc=7 d=6, kept on a shelf ab=2 b=9 c=3. */
    static NumberWords joinable(int shelf) {
        NumberWords x = told("ab=2,b=9,c=3");
        x.keep(shelf);
        Say.to(x, "ab").cut();
        Say.to(x, "c").cut();
        Say.to(x, "a=1,b=5,bc=7,d=6").list();
        return x;
    }

    /** 100 words, one of which is not among the 100 that are kept on shelf 0. */
    static NumberWords fullOfOthers() {
        NumberWords x = full();
        x.keep(0);
        Say.to(x, "aa").cut();
        Say.put(x, "zz", 1);
        return x;
    }

    /** 100 words that are packed to 321 bytes and one more for each of the outputs of two bytes. */
    static NumberWords ofBytes(int longOutputs) {
        NumberWords x = new NumberWords();
        int left = longOutputs;
        for (char one = 'a'; one <= 'd'; one++) {
            StringBuilder list = new StringBuilder();
            for (char two = 'a'; two <= 'y'; two++) {
                boolean isLong = two > 'a' && two < 'y' && left > 0;
                left -= isLong ? 1 : 0;
                int number = isLong ? 200 : two == 'y' ? one - 'a' + 1 : 0;
                list.append(two == 'a' ? "" : ",").append(one).append(two).append('=').append(number);
            }
            Say.to(x, list.toString()).list();
        }
        return x;
    }
}
