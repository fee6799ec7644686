/** Compares answers with those that are due, and counts the tests that pass and fail. */
final class Checks {
    static final String ARGUMENT = "IllegalArgumentException";
    static final String STATE = "IllegalStateException";

    /** A call of the program, its answer thrown away or compared elsewhere. */
    interface Call {
        void run();
    }

    private int passed = 0;
    private int failed = 0;
    private String test = "";
    private int wrong = 0;

    void test(String name, Call body) {
        test = name;
        wrong = 0;
        try {
            body.run();
        } catch (RuntimeException | Error e) {
            wrong(e + " was thrown");
            e.printStackTrace(System.out);
        }
        if (wrong == 0) {
            passed++;
        } else {
            failed++;
        }
    }

    void due(String call, Object got, Object want) {
        if (!want.equals(got)) {
            wrong(call + " answered " + got + ", due is " + want);
        }
    }

    /** The exact class counts: a subclass, such as one that the machine throws, is wrong. */
    void throwsDue(String call, String want, Call body) {
        String got = "nothing";
        try {
            body.run();
        } catch (RuntimeException e) {
            got = e.getClass().getSimpleName();
        }
        if (!got.equals(want)) {
            wrong(call + " threw " + got + ", due is " + want);
        }
    }

    void wrong(String what) {
        wrong++;
        System.out.println(test + ": " + what);
    }

    int failed() {
        return failed;
    }

    void report() {
        System.out.println(passed + " passed, " + failed + " failed");
    }
}
