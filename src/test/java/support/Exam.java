/** Counts answers that are not the ones that are due, and prints them. */
final class Exam {
    private static final int MOST_PRINTED = 40;
    private static final int MOST_PRINTED_OF_ONE = 4;
    private int asked;
    private int wrong;
    private int wrongHere;
    private String heading = "";

    /** What is asked from now on is printed under this heading, if it is wrong. */
    void under(String newHeading) {
        heading = newHeading;
        wrongHere = 0;
    }

    void due(String call, int got, int want) {
        asked++;
        if (got != want) {
            wrong++;
            wrongHere++;
            if (heading.isEmpty() ? wrong <= MOST_PRINTED : wrongHere <= MOST_PRINTED_OF_ONE) {
                System.out.println(heading + call + " answered " + got + ", due is " + want);
            }
        }
    }

    void holds(String what, boolean so) {
        due(what, so ? 1 : 0, 1);
    }

    boolean failed() {
        return wrong > 0;
    }

    int asked() {
        return asked;
    }

    /** Ends the test. */
    void close(String name) {
        System.out.println(name + ": " + asked + " answers looked at, " + wrong + " wrong");
        if (wrong > 0 || asked == 0) {
            System.exit(1);
        }
    }
}
