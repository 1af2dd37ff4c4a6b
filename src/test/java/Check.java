/** Counts and prints the answers that are not the ones that are due. */
final class Check {
    private final String title;
    private String part = "";
    private int seen = 0;
    private int wrong = 0;

    Check(String title) {
        this.title = title;
    }

    void part(String name) {
        part = name;
    }

    void is(String what, long got, long due) {
        seen++;
        if (got != due) {
            wrong++;
            System.out.println(title + ", " + part + ": " + what + " answered " + got
                    + ", due is " + due);
        }
    }

    void is(String what, boolean got, boolean due) {
        is(what, got ? 1L : 0L, due ? 1L : 0L);
    }

    void yes(String what, boolean got) {
        is(what, got, true);
    }

    void no(String what, boolean got) {
        is(what, got, false);
    }

    boolean failed() {
        return wrong > 0;
    }

    void end() {
        System.out.println(title + ": " + seen + " answers looked at, " + wrong + " wrong");
        if (wrong > 0) {
            System.exit(1);
        }
    }
}
