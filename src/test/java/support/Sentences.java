import java.io.IOException;
import java.io.UncheckedIOException;
import java.nio.charset.StandardCharsets;
import java.nio.file.Files;
import java.nio.file.Path;
import java.util.Arrays;
import java.util.function.Supplier;
import java.util.function.ToIntFunction;

/** What tests of the document's sentences share: each sentence has a test of its own, and none is left out. */
abstract class Sentences {
    static final int NONE = NumberWords.NONE;
    private static final Path DOCUMENT = Path.of("../shared/DOC.md");

    private final Exam exam = new Exam();
    private final String document = read();
    private String section = "";
    private String text = "";
    private boolean[] tested = new boolean[0];

    private static String read() {
        if (!Files.exists(DOCUMENT)) {
            System.out.println(DOCUMENT + " is not here: whether all of its sentences have tests is not looked at");
            return "";
        }
        try {
            return Files.readString(DOCUMENT, StandardCharsets.UTF_8);
        } catch (IOException e) {
            throw new UncheckedIOException(e);
        }
    }

    /** The sentences from here on are a promise's; all of those of the section ahead must have had a test. */
    void promise(int number) {
        section("Promise " + number, "## Promise " + number + ": ", "\n## ");
        text = text.substring(text.indexOf("`: ") + 1);
        tested = new boolean[text.length()];
    }

    void section(String name, String from, String to) {
        endSection();
        section = name;
        int begin = document.indexOf(from) + from.length();
        int end = document.indexOf(to, begin);
        exam.holds(name + " stands in the document", document.isEmpty() || begin >= from.length() && end > begin);
        text = document.isEmpty() ? "" : plain(document.substring(begin, end));
        tested = new boolean[text.length()];
    }

    private static String plain(String passage) {
        return passage.replace("```text", " ").replace("```", " ").replaceAll("\\s+", " ");
    }

    private void endSection() {
        StringBuilder left = new StringBuilder();
        for (int i = 0; i < text.length(); i++) {
            left.append(tested[i] || !Character.isLetterOrDigit(text.charAt(i)) ? ' ' : text.charAt(i));
        }
        String untested = left.toString().trim().replaceAll(" +", " ");
        exam.under("");
        exam.holds(section + ": no test of \"" + untested + "\"", untested.isEmpty());
    }

    /** A sentence of the section, as it stands there, and the test of it. */
    void says(String sentence, Runnable test) {
        exam.under(section + ", \"" + sentence + "\": ");
        if (!document.isEmpty()) {
            int at = text.indexOf(sentence);
            exam.holds("stands there once", at >= 0 && at == text.lastIndexOf(sentence));
            Arrays.fill(tested, Math.max(at, 0), at < 0 ? 0 : at + sentence.length(), true);
        }
        int before = exam.asked();
        try {
            test.run();
        } catch (RuntimeException | StackOverflowError e) {
            exam.holds("no " + e, false);
        }
        exam.holds("asks something", exam.asked() > before);
    }

    void close() {
        endSection();
        exam.close(getClass().getSimpleName());
    }

    void due(String call, int got, int want) {
        exam.due(call, got, want);
    }

    void holds(String what, boolean so) {
        exam.holds(what, so);
    }

    void words(String call, NumberWords x, String want) {
        String got = Say.words(x);
        exam.holds(call + ": words are " + got + ", due are " + want, got.equals(want));
    }

    void bytes(String call, NumberWords x, int... want) {
        int[] got = Say.tape(x);
        exam.holds(call + ": bytes are " + Arrays.toString(got) + ", due are " + Arrays.toString(want),
                Arrays.equals(got, want));
    }

    /** The call answers so, and all is then as on an object that was made alike. */
    void nothingHappens(String call, Supplier<NumberWords> made, ToIntFunction<NumberWords> asked, int want) {
        due(call, asked.applyAsInt(made.get()), want);
        likeEachOther(call, () -> {
            NumberWords x = made.get();
            asked.applyAsInt(x);
            return x;
        }, made);
    }

    /** The call takes the text from the tape and answers so; the tape is empty, all else is as it was. */
    void tapeAloneGoes(String text, Supplier<NumberWords> made, ToIntFunction<NumberWords> asked, int want) {
        String call = "of \"" + text + "\"";
        due(call, asked.applyAsInt(Say.to(made.get(), text)), want);
        likeEachOther(call, () -> {
            NumberWords x = Say.to(made.get(), text);
            asked.applyAsInt(x);
            return x;
        }, () -> Say.to(made.get(), ""));
    }

    private void likeEachOther(String call, Supplier<NumberWords> made, Supplier<NumberWords> other) {
        String got = Portrait.of(made);
        String want = Portrait.of(other);
        exam.holds(call + " leaves\n" + got + "\ndue is\n" + want + "\n", got.equals(want));
    }
}
