/** Counts and prints the answers that are not as due. */
final class Answers {
    private static final int MOST_PRINTED = 50;

    private int asked = 0;
    private int wrong = 0;

    void due(String what, long want, long got) {
        asked++;
        if (got != want) {
            wrong++;
            if (wrong > MOST_PRINTED) {
                return;
            }
            System.out.println(what + " answered " + got + ", due is " + want);
        }
    }

    void due(String what, boolean want, boolean got) {
        due(what, want ? 1 : 0, got ? 1 : 0);
    }

    void finish() {
        System.out.println(asked + " answers asked, " + wrong + " wrong");
        if (wrong != 0 || asked == 0) {
            System.exit(1);
        }
    }
}
