/** Counts the answers of one test and prints each one that is not due. */
class Checks {
    private int asked;
    private int wrong;

    void due(String what, long got, long want) {
        asked++;
        if (got != want) {
            wrong++;
            System.out.println(what + " answered " + got + ", due is " + want);
        }
    }

    final void due(String what, boolean got, boolean want) {
        due(what, got ? 1 : 0, want ? 1 : 0);
    }

    final int asked() {
        return asked;
    }

    /** Ends the program with exit code 1 if an answer was wrong, or if nothing was asked. */
    void end() {
        System.out.println(asked - wrong + " of " + asked + " answers as due");
        if (wrong != 0 || asked == 0) {
            System.exit(1);
        }
    }
}
