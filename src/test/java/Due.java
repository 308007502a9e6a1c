/** Compares answers with those that are due, and ends a test with exit code 1 if one was not. */
final class Due {
    static final long NO_INT = Integer.MIN_VALUE;
    static final long NO_LONG = Long.MIN_VALUE;
    private static final long PATIENCE_MILLIS = 300_000;

    private static int wrong = 0;
    private static int seen = 0;

    private Due() {
    }

    /** A call that never ends must fail the test, too. */
    static void watch() {
        Thread watcher = new Thread(Due::haltWhenLate);
        watcher.setDaemon(true);
        watcher.start();
    }

    static void is(String what, long got, long want) {
        seen++;
        if (got != want) {
            wrong++;
            if (wrong <= 50) {
                System.out.println(what + " answered " + got + ", due is " + want);
            }
        }
    }

    static void is(String what, boolean got, boolean want) {
        is(what, got ? 1 : 0, want ? 1 : 0);
    }

    static void end() {
        System.out.println(seen + " answers, " + wrong + " of them not as due");
        if (wrong != 0 || seen == 0) {
            System.exit(1);
        }
    }

    private static void haltWhenLate() {
        try {
            Thread.sleep(PATIENCE_MILLIS);
        } catch (InterruptedException e) {
            return;
        }
        System.out.println("a call does not end");
        Runtime.getRuntime().halt(1);
    }
}
