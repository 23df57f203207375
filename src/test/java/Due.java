/** Counts and prints the answers that are not the ones that are due. */
final class Due {
    private final String name;
    private String about = "";
    private int wrong;
    private int asked;

    Due(String name) {
        this.name = name;
    }

    /** What the answers from now on stand for. */
    void about(String what) {
        about = what + ": ";
    }

    void is(String call, long got, long want) {
        asked++;
        if (got != want) {
            wrong++;
            if (wrong <= 50) {
                System.out.println(name + ": " + about + call + " answered " + got + ", due is " + want);
            }
        }
    }

    void is(String call, boolean got, boolean want) {
        is(call, got ? 1 : 0, want ? 1 : 0);
    }

    int wrong() {
        return wrong;
    }

    void end() {
        System.out.println(name + ": " + asked + " answers, " + wrong + " wrong");
        if (wrong != 0 || asked == 0) {
            System.exit(1);
        }
    }
}
