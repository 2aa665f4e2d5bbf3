/** Counts and prints the answers that are not the ones that are due. */
final class Checks {
    private int asked;
    private int wrong;
    private String promise = "";

    /** Says which promise the checks that follow are for. */
    void promise(String name) {
        promise = name;
    }

    int asked() {
        return asked;
    }

    void due(String call, long got, long want) {
        asked++;
        if (got != want) {
            wrong++;
            System.out.println(promise + ": " + call + " answered " + got + ", due is " + want);
        }
    }

    void dueTrue(String what, boolean holds) {
        asked++;
        if (!holds) {
            wrong++;
            System.out.println(promise + ": " + what);
        }
    }

    /** Ends the program, with 1 if an answer was wrong or none was asked for. */
    void end() {
        System.out.println(asked + " answers, " + wrong + " wrong");
        if (wrong != 0 || asked == 0) {
            System.exit(1);
        }
    }
}
