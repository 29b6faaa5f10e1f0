/** Counts answers that are not as due, tells each, and ends the test with exit code 1 if there was one. */
final class Check {
    private final String title;
    private String subject = "";
    private int asked;
    private int wrong;

    Check(String title) {
        this.title = title;
    }

    /** What the answers from here on are about; it is told with each wrong one. */
    void about(String what) {
        subject = what + ": ";
    }

    void due(String call, long got, long want) {
        asked++;
        if (got != want) {
            wrong++;
            System.out.println(title + ": " + subject + call + " answered " + got + ", due is " + want);
        }
    }

    void due(String call, boolean got, boolean want) {
        due(call, got ? 1 : 0, want ? 1 : 0);
    }

    int asked() {
        return asked;
    }

    int wrong() {
        return wrong;
    }

    void end() {
        System.out.println(title + ": " + asked + " answers, " + wrong + " not as due");
        if (wrong != 0 || asked == 0) {
            System.exit(1);
        }
    }
}
