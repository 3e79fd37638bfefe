/** Counts and prints the answers that are not as due. */
final class Check {
    interface Call {
        void make();
    }

    private final String name;
    private int wrong;
    private int looked;

    Check(String name) {
        this.name = name;
    }

    void due(String what, long got, long want) {
        looked++;
        if (got != want) {
            wrong++;
            if (wrong <= 40) {
                System.out.println(name + ": " + what + " answered " + got + ", due is " + want);
            }
        }
    }

    void dueThrow(String what, Class<? extends RuntimeException> want, Call call) {
        looked++;
        String got = "nothing";
        try {
            call.make();
        } catch (RuntimeException e) {
            got = e.getClass().getSimpleName();
        }
        if (!got.equals(want.getSimpleName())) {
            wrong++;
            System.out.println(name + ": " + what + " threw " + got + ", due is " + want.getSimpleName());
        }
    }

    /** Ends the test: with exit code 1 if an answer was wrong, or none was looked at. */
    void end() {
        System.out.println(name + ": " + looked + " answers looked at, " + wrong + " wrong");
        if (wrong != 0 || looked == 0) {
            System.exit(1);
        }
    }
}
