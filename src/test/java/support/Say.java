/** Puts texts and bytes on a tape, in place of what is there. */
final class Say {
    private Say() {
    }

    static NumberWords to(NumberWords x, String text) {
        int[] bytes = new int[text.length()];
        for (int i = 0; i < bytes.length; i++) {
            bytes[i] = text.charAt(i);
        }
        return to(x, bytes);
    }

    static NumberWords to(NumberWords x, int... bytes) {
        x.end(0);
        for (int from = 0; from < bytes.length; from += 20) {
            x.feed(four(bytes, from), four(bytes, from + 4), four(bytes, from + 8), four(bytes, from + 12),
                    four(bytes, from + 16));
        }
        x.end(bytes.length);
        return x;
    }

    static int put(NumberWords x, String word, int number) {
        return to(x, word).put(number);
    }

    static int append(NumberWords x, String word, int number) {
        return to(x, word).append(number);
    }

    static int state(NumberWords x, String beginning) {
        return to(x, beginning).state();
    }

    static int four(int[] bytes, int from) {
        int number = 0;
        for (int i = from; i < from + 4; i++) {
            number = number << 8 | (i < bytes.length ? bytes[i] & 255 : 0);
        }
        return number;
    }

    static int[] tape(NumberWords x) {
        int[] bytes = new int[x.count(10)];
        for (int i = 0; i < bytes.length; i++) {
            bytes[i] = x.octet(i);
        }
        return bytes;
    }

    static String words(NumberWords x) {
        StringBuilder text = new StringBuilder();
        for (int rank = 0; rank < x.count(0); rank++) {
            for (int i = 0; i < x.word(rank, NumberWords.NONE); i++) {
                text.append((char) ('a' - 1 + x.word(rank, i)));
            }
            text.append('=').append(x.value(rank)).append(' ');
        }
        return text.toString().trim();
    }
}
