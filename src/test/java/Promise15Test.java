/** backend. */
public final class Promise15Test {
    public static void main(String[] args) {
        properties();
        credit();
        failureRun();
        ejectedFor();
        noSuchBackend();
        what();
        nothingChanges();
        Check.end();
    }

    /** All properties, each another one. */
    private static void properties() {
        new Router().does("addBackend(2, 1, 1)", "addBackend(2, 1, 3)", "setPattern(0, 5)",
                "configure(2, 0, 1, 7, 100, 0)", "rule('/=2~2')", "ask('/', 0, 1) * 4 -> 1 0 1 1",
                "setPattern(0, 0)", "ask('/', 0, 1) * 3 -> 1 -6 1", "backend(0) -> 2 1 1 0 -2 2 1 0 1 7 4 1",
                "backend(1) -> 2 1 3 255 2 5 5 0 0 0 3 3");
    }

    /** "which for the credit may be negative": also as low as the error codes. */
    private static void credit() {
        Router x = new Router().does("addBackend(0, 0, 9)", "addBackend(0, 0, 1) * 6", "rule('/=0')",
                "ask('/', 0, 0) -> 0");
        x.does("backend(0, 4) -> -6", "ask('/', 0, 0) -> 0", "backend(0, 4) -> -12", "backend(1, 4) -> 2",
                "backend(6, 4) -> 2");
    }

    /** "7 for its failure run" */
    private static void failureRun() {
        Router x = new Router().does("addBackend(0, 0, 1)", "setPattern(0, 8)", "configure(0, 0, 9, 1, 0, 0)",
                "rule('/=0')");
        for (int run = 0; run < 4; run++) {
            x.does("backend(0, 7) -> " + run, "ask('/', 0, 0)");
        }
        x.does("backend(0, 7) -> 0", "ask('/', 0, 0)", "backend(0, 7) -> 1");
    }

    /** "9 for the number of ticks for which it is still ejected, 0 if it is not" */
    private static void ejectedFor() {
        new Router().does("addBackend(0, 0, 1)", "setPattern(0, 0)", "configure(0, 0, 1, 2, 100, 0)",
                "rule('/=0')", "backend(0, 9) -> 0", "ask('/', 0, 0)", "backend(0, 9) -> 2", "tick(1)",
                "backend(0, 9) -> 1", "tick(1)", "backend(0, 9) -> 0", "tick(1)", "backend(0, 9) -> 0",
                "backend(0, 8) -> 1");
    }

    /** "NONE if there is no such backend", which is listed before BAD_ARGUMENT. */
    private static void noSuchBackend() {
        new Router().does("backend(0, 0) -> -1", "backend(0, 12) -> -1", "backend(-1, 0) -> -1");
        Situations.USED.taken().does("backend(5, 0) -> 2", "backend(6, 0) -> -1", "backend(-1, 0) -> -1",
                "backend(6, 12) -> -1", "backend(-1, -1) -> -1", "backend(min, 0) -> -1",
                "backend(max, 0) -> -1");
        Situations.FULL.taken().does("backend(11, 0) -> 3", "backend(12, 0) -> -1", "backend(11, 11) -> 0");
    }

    /** "BAD_ARGUMENT if what is not from 0 to 11" */
    private static void what() {
        Situations.USED.taken().does("backend(4, 0) -> 1", "backend(4, 11) -> 7", "backend(4, -1) -> -2",
                "backend(4, 12) -> -2", "backend(0, min) -> -2", "backend(0, max) -> -2");
    }

    private static void nothingChanges() {
        Situations.changesNothing(Situations.USED, "backend(0)", "backend(5)", "backend(6, 0)", "backend(0, 12)");
    }
}
