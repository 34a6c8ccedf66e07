import java.util.function.Supplier;

/** All that can be seen of an object; it is made anew for each look, for looking changes it. */
final class Portrait {
    private Portrait() {
    }

    static String of(Supplier<NumberWords> made) {
        StringBuilder text = new StringBuilder();
        NumberWords x = made.get();
        addNow(text, x);
        addPast(text, x);
        NumberWords y = made.get();
        text.append("\nbuilder ").append(y.finish()).append(": ").append(Say.words(y));
        for (int shelf = 0; shelf < 3; shelf++) {
            NumberWords z = made.get();
            text.append("\nshelf ").append(shelf).append(": ").append(z.same(shelf));
            text.append(' ').append(z.join(shelf, 0, 4)).append(' ').append(Say.words(z));
        }
        return text.toString();
    }

    private static void addNow(StringBuilder text, NumberWords x) {
        text.append("tape");
        for (int octet : Say.tape(x)) {
            text.append(' ').append(octet);
        }
        text.append("\ncounts");
        for (int what = 0; what < 12; what++) {
            text.append(' ').append(x.count(what));
        }
        text.append("\nwords ").append(Say.words(x)).append("\nstates");
        for (int s = 0; s < x.count(1); s++) {
            text.append(' ').append(x.about(s, 0)).append('(');
            for (int k = 0; k < x.arc(s, NumberWords.NONE, 0); k++) {
                text.append(x.arc(s, k, 0)).append('/').append(x.arc(s, k, 1)).append('>').append(x.arc(s, k, 2));
            }
            text.append(')');
        }
    }

    private static void addPast(StringBuilder text, NumberWords x) {
        for (int left = x.undo(); left >= 0; left = x.undo()) {
            text.append("\nahead of ").append(left).append(": ").append(Say.words(x)).append("; builder");
            for (int what = 5; what < 8; what++) {
                text.append(' ').append(x.count(what));
            }
        }
    }
}
