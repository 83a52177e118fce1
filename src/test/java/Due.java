/** Counts the answers of one test that are not the ones that are due, and ends it accordingly. */
final class Due {
    private int wrong = 0;
    private int asked = 0;

    /** Got one answer where want is due; where tells the promise and the call. */
    void is(String where, long got, long want) {
        asked++;
        if (got != want) {
            wrong++;
            if (wrong <= 40) {
                System.out.println(where + " answered " + got + ", due is " + want);
            }
        }
    }

    void holds(String where, boolean good) {
        is(where, good ? 1 : 0, 1);
    }

    /** To be called last: tells the outcome, and exits with 1 if an answer was wrong or none was asked. */
    void end() {
        System.out.println(asked + " answers, " + wrong + " not as due");
        if (wrong != 0 || asked == 0) {
            System.exit(1);
        }
    }
}
