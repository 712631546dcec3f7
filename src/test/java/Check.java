/** Runs tests by name and prints a line for each, which .ci/run counts. */
final class Check {
    private static int failed = 0;
    private static boolean right = true;

    private Check() {
    }

    static void due(String call, long got, long want) {
        if (got != want) {
            right = false;
            System.out.println("  " + call + " answered " + got + ", due is " + want);
        }
    }

    static void holds(String what, boolean is) {
        if (!is) {
            right = false;
            System.out.println("  not so: " + what);
        }
    }

    static void test(String name, Runnable body) {
        right = true;
        try {
            body.run();
        } catch (RuntimeException | StackOverflowError thrown) {
            right = false;
            thrown.printStackTrace(System.out);
        }
        if (!right) {
            failed++;
        }
        System.out.println((right ? "ok " : "not ok ") + name);
    }

    static void end() {
        if (failed > 0) {
            System.exit(1);
        }
    }
}
