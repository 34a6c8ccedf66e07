/** Counts answers that are not the ones that are due, and prints them. */
final class Exam {
    private int asked;
    private int wrong;

    void due(String call, int got, int want) {
        asked++;
        if (got != want) {
            wrong++;
            if (wrong <= 40) {
                System.out.println(call + " answered " + got + ", due is " + want);
            }
        }
    }

    void holds(String what, boolean so) {
        due(what, so ? 1 : 0, 1);
    }

    boolean failed() {
        return wrong > 0;
    }

    /** Ends the test. */
    void close(String name) {
        System.out.println(name + ": " + asked + " answers looked at, " + wrong + " wrong");
        if (wrong > 0 || asked == 0) {
            System.exit(1);
        }
    }
}
