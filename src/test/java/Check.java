/** Counts and prints the answers that are not the ones that are due. */
final class Check {
    private static final int MOST_PRINTED = 50;

    private static int passed = 0;
    private static int failed = 0;
    private static String about = "";

    private Check() {
    }

    /** What follows is told to be about this, if it fails. */
    static void about(String text) {
        about = text.isEmpty() ? "" : text + " | ";
    }

    static void same(String what, long got, long due) {
        if (got == due) {
            passed++;
            return;
        }
        failed++;
        if (failed <= MOST_PRINTED) {
            System.out.println(about + what + " answered " + got + ", due is " + due);
        }
    }

    static void holds(String what, boolean holds) {
        same(what, holds ? 1 : 0, 1);
    }

    static boolean hasFailed() {
        return failed > 0;
    }

    static int answers() {
        return passed + failed;
    }

    static void finish(String name) {
        System.out.println(name + ": " + passed + " answers as due, " + failed + " not");
        if (failed > 0) {
            System.exit(1);
        }
    }
}
