/** Counts what is not as due, and prints it. */
final class Check {
    interface Call {
        void run();
    }

    private static String part = "";
    private static int rows = 0;
    private static int wrong = 0;

    private Check() { }

    static void part(String name) {
        part = name;
    }

    static void due(String call, long got, long want) {
        rows++;
        if (got != want) {
            wrong++;
            System.out.println(part + ": " + call + " answered " + got + ", due is " + want);
        }
    }

    static void due(String call, boolean got, boolean want) {
        due(call, got ? 1 : 0, want ? 1 : 0);
    }

    static void due(String call, double got, double want) {
        rows++;
        if (got != want) {
            wrong++;
            System.out.println(part + ": " + call + " answered " + got + ", due is " + want);
        }
    }

    static void throwsIndex(String call, Call made) {
        throwsOne(call, made, IndexOutOfBoundsException.class);
    }

    static void throwsArgument(String call, Call made) {
        throwsOne(call, made, IllegalArgumentException.class);
    }

    static void throwsState(String call, Call made) {
        throwsOne(call, made, IllegalStateException.class);
    }

    /** The very class is asked for: one below it would be the machine's own. */
    private static void throwsOne(String call, Call made, Class<?> want) {
        rows++;
        String got = "nothing";
        try {
            made.run();
        } catch (RuntimeException e) {
            if (e.getClass() == want) {
                return;
            }
            got = e.getClass().getName();
        }
        wrong++;
        System.out.println(part + ": " + call + " throws " + got + ", due is " + want.getName());
    }

    static void end() {
        System.out.println(wrong == 0 ? rows + " answers are as due" : wrong + " of " + rows + " answers are not as due");
        if (wrong != 0) {
            System.exit(1);
        }
    }
}
