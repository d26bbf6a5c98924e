/** Compares what is answered with what is due, and ends a test with exit code 1 if one differed. */
final class Checks {
    static final Class<?> NOTHING = null;
    static final Class<?> INDEX = IndexOutOfBoundsException.class;
    static final Class<?> ARGUMENT = IllegalArgumentException.class;
    static final Class<?> STATE = IllegalStateException.class;

    interface Call {
        void run();
    }

    private int passed = 0;
    private int wrong = 0;
    private String about = "";

    /** What is compared from here on is told under this name, where it differs. */
    void begin(String name) {
        about = name + "\n    ";
    }

    int made() {
        return passed + wrong;
    }

    void due(String call, long got, long want) {
        if (got == want) {
            passed++;
        } else {
            wrong++;
            System.out.println(about + call + " answered " + got + ", due is " + want);
        }
    }

    void holds(String what, boolean is) {
        due(what, is ? 1 : 0, 1);
    }

    /** The exception must be of this very class: the document names no class below it. */
    void dueThrow(String call, Class<?> want, Call run) {
        Class<?> got = thrown(run);
        if (got == want) {
            passed++;
        } else {
            wrong++;
            System.out.println(about + call + " threw " + got + ", due is " + want);
        }
    }

    static Class<?> thrown(Call run) {
        try {
            run.run();
            return NOTHING;
        } catch (RuntimeException e) {
            return e.getClass();
        }
    }

    void end() {
        System.out.println(passed + " answers as due, " + wrong + " not");
        if (wrong > 0 || passed == 0) {
            System.exit(1);
        }
    }
}
