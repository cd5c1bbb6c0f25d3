/** remembered. */
public final class Promise17Test {
    private static final Steps STICKY = Steps.of("addBackend(3, 0, 1) * 2", "configure(3, 2, 9, 1, 0, 0)",
            "rule('/=3')", "ask('/', 9, 0) -> 0", "ask('/', 0, 0) -> 1");

    public static void main(String[] args) {
        backend();
        eachHeader();
        noSuchService();
        noSuchHeader();
        none();
        nothingChanges();
        Check.end();
    }

    /** "Returns the backend that a service remembers for a header value." */
    private static void backend() {
        STICKY.taken().does("remembered(3, 9) -> 0", "remembered(3, 0) -> 1",
                "kept(3) -> 1 -1 -1 -1 -1 -1 -1 -1 -1 0", "kept(0) -> -1 -1 -1 -1 -1 -1 -1 -1 -1 -1",
                "kept(2) -> -1 -1 -1 -1 -1 -1 -1 -1 -1 -1");
    }

    private static void eachHeader() {
        Router x = new Router().does("addBackend(1, 0, 1) * 12", "configure(1, 2, 9, 1, 0, 0)", "rule('/=1')");
        for (int header = 9; header >= 0; header--) {
            x.does("ask('/', " + header + ", 0) -> " + (9 - header));
        }
        x.does("kept(1) -> 9 8 7 6 5 4 3 2 1 0");
    }

    /** "BAD_ARGUMENT if there is no such service" */
    private static void noSuchService() {
        STICKY.taken().does("remembered(0, 0) -> -1", "remembered(3, 0) -> 1", "remembered(-1, 0) -> -2",
                "remembered(4, 0) -> -2", "remembered(min, 0) -> -2", "remembered(max, 0) -> -2");
    }

    /** "or header value" */
    private static void noSuchHeader() {
        STICKY.taken().does("remembered(3, 0) -> 1", "remembered(3, 9) -> 0", "remembered(3, -1) -> -2",
                "remembered(3, 10) -> -2", "remembered(0, -1) -> -2", "remembered(3, min) -> -2",
                "remembered(3, max) -> -2", "remembered(4, 10) -> -2");
    }

    /** "NONE if it remembers none" */
    private static void none() {
        STICKY.taken().does("remembered(3, 1) -> -1", "remembered(3, 8) -> -1", "remembered(2, 9) -> -1");
        new Router().does("remembered(0, 0) -> -1", "remembered(3, 9) -> -1");
    }

    private static void nothingChanges() {
        Situations.changesNothing(Situations.USED, "kept(0)", "kept(3)", "remembered(4, 0)", "remembered(0, 10)");
    }
}
