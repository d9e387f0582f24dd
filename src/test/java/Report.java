/** Counts what was due and prints each answer that was not. */
final class Report {
    private static final int MOST_PRINTED = 40;
    private static int passed = 0;
    private static int failed = 0;

    private Report() {
    }

    static void pass() {
        passed++;
    }

    static void fail(String what) {
        failed++;
        if (failed <= MOST_PRINTED) {
            System.out.println(what);
        }
    }

    static void dueThat(boolean holds, String what) {
        if (holds) {
            pass();
        } else {
            fail(what);
        }
    }

    static boolean hasFailed() {
        return failed > 0;
    }

    /** Ends the program, with 1 if something failed or nothing was asked. */
    static void end(String name) {
        System.out.println(name + ": " + passed + " passed, " + failed + " failed");
        System.exit(failed == 0 && passed > 0 ? 0 : 1);
    }
}
