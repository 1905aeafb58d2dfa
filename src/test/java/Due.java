/** Counts the answers that are not as due, so that one run shows all of them. */
final class Due {
    private final String name;
    private int wrong = 0;
    private int asked = 0;

    Due(String name) {
        this.name = name;
    }

    void is(String what, long got, long want) {
        tell(got == want, what, Long.toString(got), Long.toString(want));
    }

    void is(String what, String got, String want) {
        tell(got.equals(want), what, got, want);
    }

    void yes(String what, boolean got) {
        tell(got, what, "false", "true");
    }

    void no(String what, boolean got) {
        tell(!got, what, "true", "false");
    }

    void end() {
        System.out.println(name + ": " + (asked - wrong) + " of " + asked + " answers are as due");
        if (wrong != 0) {
            System.exit(1);
        }
    }

    private void tell(boolean right, String what, String got, String want) {
        asked++;
        if (!right) {
            wrong++;
            System.out.println(name + ": " + what + " answered " + got + ", due is " + want);
        }
    }
}
