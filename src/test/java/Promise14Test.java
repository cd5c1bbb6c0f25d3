/** tick. */
public final class Promise14Test {
    /** Backend 0 is ejected for four ticks, and backend 1 for two. */
    private static final Steps EJECTED = Steps.of("addBackend(0, 0, 1)", "addBackend(1, 0, 1)",
            "addBackend(2, 0, 1)", "setPattern(0, 0)", "setPattern(1, 0)", "configure(0, 0, 1, 4, 100, 0)",
            "configure(1, 0, 1, 2, 100, 0)", "rule('/=0,1')",
            "ask('/', 0, 0) * 3 -> -6 -6 -5", "backend(0, 9) -> 4", "backend(1, 9) -> 2");

    public static void main(String[] args) {
        time();
        count();
        eachEjectedBackend();
        severalAtOnce();
        neverBelowNone();
        endOfEjection();
        recorded();
        Check.end();
    }

    /** "the time is increased by 1"; "Returns the time" */
    private static void time() {
        new Router().does("tick(1) -> 1", "tick(1) -> 2", "tick(7) -> 9", "count(10) -> 9",
                "tick(50) * 4 -> 59 109 159 209");
    }

    /** "count: the number of ticks, 1 to 50" */
    private static void count() {
        new Router().does("tick(1) -> 1", "tick(50) -> 51", "tick(49) -> 100");
        for (Steps situation : new Steps[] {Situations.NEW, Situations.USED, Situations.FULL}) {
            Situations.changesNothing(situation, "tick(0) -> -2", "tick(51) -> -2", "tick(-1) -> -2",
                    "tick(min) -> -2", "tick(max) -> -2");
        }
    }

    /** "for each ejected backend the number of ticks for which it is ejected is decreased by 1" */
    private static void eachEjectedBackend() {
        EJECTED.taken().does("tick(1) -> 1", "backend(0, 9) -> 3", "backend(1, 9) -> 1", "backend(2, 9) -> 0",
                "service(0, 7) -> 1", "service(1, 7) -> 1", "tick(1) -> 2", "backend(0, 9) -> 2",
                "backend(1, 9) -> 0", "service(0, 7) -> 1", "service(1, 7) -> 0", "tick(1)",
                "backend(0, 9) -> 1", "tick(1)", "backend(0, 9) -> 0", "service(0, 7) -> 0");
        EJECTED.taken().does("setWeight(0, 0)", "tick(1)", "backend(0, 9) -> 3");
    }

    private static void severalAtOnce() {
        EJECTED.taken().does("tick(3) -> 3", "backend(0, 9) -> 1", "backend(1, 9) -> 0", "tick(50) -> 53",
                "backend(0, 9) -> 0", "backend(1, 9) -> 0");
    }

    private static void neverBelowNone() {
        EJECTED.taken().does("tick(4)", "backend(0, 9) -> 0", "tick(1)", "backend(0, 9) -> 0",
                "backend(2, 9) -> 0");
    }

    /** "if it is 0 then, the backend is not ejected any more" */
    private static void endOfEjection() {
        EJECTED.taken().does("tick(1)", "ask('/', 0, 0) -> -5", "tick(1)", "ask('/', 0, 0) -> -6",
                "trace() -> 1,0,1,1", "backend(1, 9) -> 4", "ask('/', 0, 0) -> -5", "tick(1)",
                "ask('/', 0, 0) -> -5", "tick(1)", "ask('/', 0, 0) -> -6", "trace() -> 0,0,1,1",
                "backend(0, 9) -> 8");
    }

    /** Nothing but the time, the ejections and the recording changes. */
    private static void recorded() {
        Situations.USED.taken().does("count(11) -> 9", "trace() -> 0,1,1,0", "tick(2) -> 7", "count(11) -> 11",
                "play(0) -> 0", "trace() -> 0,1,1,0", "type('/a')", "tick(1)", "count(13) -> 2");
    }
}
