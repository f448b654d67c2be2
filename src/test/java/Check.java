import java.util.Objects;

/** Counts answers that are not the ones that are due, and tells each. */
final class Check {
    private final String name;
    private int asked;
    private int wrong;

    Check(String name) {
        this.name = name;
    }

    void due(String call, Object got, Object due) {
        asked++;
        if (!Objects.equals(got, due)) {
            wrong++;
            System.out.println(name + ": " + call + " answered " + got + ", due is " + due);
        }
    }

    int wrong() {
        return wrong;
    }

    /** Ends the run with 1 if an answer was wrong, or if none was asked for. */
    void end() {
        System.out.println(name + ": " + asked + " answers, " + wrong + " wrong");
        if (wrong != 0 || asked == 0) {
            System.exit(1);
        }
    }
}
