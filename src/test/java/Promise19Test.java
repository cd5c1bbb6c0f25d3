/** trace, and what the trace tells. */
public final class Promise19Test {
    /** Backends 0 in zone 0, and 1 and 2 in zone 1; 1 fails and is ejected, 2 answers. */
    private static final Steps TWO = Steps.of("addBackend(0, 0, 1)", "addBackend(0, 1, 1) * 2",
            "configure(0, 0, 1, 9, 34, 0)", "setZoneLimit(50)", "setPattern(0, 0)", "setPattern(1, 0)",
            "rule('/a=0~0*3')", "rule('/b=1')", "ask('/a', 0, 1) -> 2", "trace() -> 1,0,1,1 2,1,1,0");

    public static void main(String[] args) {
        parts();
        ejectedBefore();
        emptyAtFirst();
        latestRequest();
        mostAttempts();
        noRule();
        noBackend();
        staysOtherwise();
        noSuchAttempt();
        what();
        nothingChanges();
        Check.end();
    }

    /** "the backend", "1 if it succeeded", "1 if it is in the zone", "1 if the attempt led to its ejection" */
    private static void parts() {
        TWO.taken().does("ask('/a', 0, 0) -> 2", "trace() -> 0,0,1,0 2,1,0,0", "ask('/a', 0, 2) -> 2",
                "trace() -> 2,1,0,0", "tick(9)", "ask('/a', 0, 0) -> 2", "trace() -> 0,0,1,1 2,1,0,0");
    }

    /** "the attempt led to its ejection": not an earlier one. */
    private static void ejectedBefore() {
        new Router().does("addBackend(0, 0, 1)", "configure(0, 0, 2, 1, 100, 0)", "setPattern(0, 8)",
                "rule('/=0')", "ask('/', 0, 0)", "trace() -> 0,0,1,0", "ask('/', 0, 0)", "trace() -> 0,0,1,1",
                "tick(1)", "ask('/', 0, 0)", "trace() -> 0,0,1,0", "ask('/', 0, 0)", "trace() -> 0,1,1,0");
    }

    private static void emptyAtFirst() {
        new Router().does("trace(0, 0) -> -1", "count(12) -> 0");
    }

    /** "The trace tells the attempts of the latest request, but not the shadow attempt." */
    private static void latestRequest() {
        TWO.taken().does("count(12) -> 2", "count(8) -> 1", "ask('/a', 0, 2) -> 2", "count(12) -> 1",
                "trace(1, 0) -> -1", "count(8) -> 2");
    }

    /** As many attempts as there may be. */
    private static void mostAttempts() {
        Steps failing = Steps.of("addBackend(0, 0, 1) * 5", "setPattern(0, 0)", "setPattern(1, 0)",
                "setPattern(2, 0)", "setPattern(3, 0)", "setPattern(4, 0)", "configure(0, 0, 9, 1, 0, 100)");
        failing.taken().does("rule('/=0*4')", "ask('/', 0, 0) -> -6", "trace() -> 0,0,1,0 1,0,1,0 2,0,1,0 3,0,1,0",
                "count(12) -> 4", "trace(3, 0) -> 3", "trace(4, 0) -> -1");
        failing.taken().does("rule('/=0')", "ask('/', 0, 0) -> -6", "trace() -> 0,0,1,0", "count(12) -> 1",
                "trace(1, 0) -> -1");
    }

    /** "If there is no rule, the trace is empty." */
    private static void noRule() {
        TWO.taken().does("ask('/c', 0, 0) -> -4", "count(12) -> 0", "trace(0, 0) -> -1");
    }

    /** Without an available backend there is no attempt. */
    private static void noBackend() {
        TWO.taken().does("ask('/b', 0, 0) -> -5", "count(12) -> 0", "trace(0, 0) -> -1");
    }

    /** It stays with all calls but request and restore. */
    private static void staysOtherwise() {
        TWO.taken().does("ask('/a', 10, 0) -> -2", "ask('!', 0, 0) -> -7", "foreseen('/a', 0, 0) -> 2", "tick(1)",
                "addBackend(0, 0, 9) -> 3", "setWeight(2, 3)", "setPattern(2, 0)",
                "configure(0, 1, 1, 1, 1, 1)", "setZoneLimit(7)", "mark()", "play(0) -> 0",
                "answeredIf(2) -> 0", "save()", "rule('/=2') -> 2", "moveRule(2, 0)", "removeRule(2)",
                "print(0)", "matched('/a', 0) -> 0", "trace() -> 1,0,1,1 2,1,1,0", "restore()",
                "count(12) -> 0", "trace(0, 0) -> -1");
    }

    /** "NONE if there is no such attempt", which is listed before BAD_ARGUMENT. */
    private static void noSuchAttempt() {
        TWO.taken().does("trace(1, 0) -> 2", "trace(2, 0) -> -1", "trace(-1, 0) -> -1", "trace(2, 4) -> -1",
                "trace(-1, -1) -> -1", "trace(min, 0) -> -1", "trace(max, 0) -> -1");
        new Router().does("trace(0, 4) -> -1");
    }

    /** "BAD_ARGUMENT if what is not from 0 to 3" */
    private static void what() {
        TWO.taken().does("trace(0, 0) -> 1", "trace(0, 3) -> 1", "trace(0, -1) -> -2", "trace(1, 4) -> -2",
                "trace(0, min) -> -2", "trace(0, max) -> -2");
    }

    private static void nothingChanges() {
        Situations.changesNothing(Situations.USED, "trace()", "trace(9, 0)", "trace(0, 4)");
    }
}
