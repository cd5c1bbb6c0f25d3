/** request: its arguments, its answers and what it counts; how it is answered has tests of its own. */
public final class Promise12Test {
    private static final Steps ONE = Steps.of("addBackend(0, 0, 1)", "rule('/=0')");

    public static void main(String[] args) {
        header();
        zone();
        noPath();
        firstError();
        emptyAfterwards();
        answers();
        counts();
        countsOfServices();
        keepsTheMarking();
        Check.end();
    }

    /** "header: the header value, 0 to 9" */
    private static void header() {
        ONE.taken().does("ask('/', 0, 0) -> 0", "ask('/', 9, 0) -> 0");
        refused("/", "request(-1, 0) -> -2", "request(10, 0) -> -2", "request(min, 0) -> -2",
                "request(max, 0) -> -2");
    }

    /** "zone: the zone, 0 to 2" */
    private static void zone() {
        ONE.taken().does("ask('/', 0, 0) -> 0", "trace() -> 0,1,1,0", "ask('/', 0, 2) -> 0", "trace() -> 0,1,0,0");
        refused("/", "request(0, -1) -> -2", "request(0, 3) -> -2", "request(0, min) -> -2",
                "request(0, max) -> -2");
    }

    /** "BAD_TEXT if the text is not a path" */
    private static void noPath() {
        for (String text : new String[] {"", "a", "a/", "/A", "/`", "/{", "/.", "/0", "/=0", "/a "}) {
            refused(text, "request(0, 0) -> -7");
        }
        refused("/".repeat(39) + "A", "request(0, 0) -> -7", "request(-1, 0) -> -2");
        ONE.taken().does("append(47, 40)", "request(0, 0) -> 0", "count(13) -> 0");
    }

    /** "If several errors apply, the one that is listed first at the method is returned." */
    private static void firstError() {
        refused("", "request(10, 0) -> -2", "request(0, 3) -> -2", "request(-1, -1) -> -2");
        refused("/A", "request(-1, 0) -> -2", "request(0, -1) -> -2", "request(10, 3) -> -2");
    }

    /** "The text is empty afterwards, also after an error." */
    private static void emptyAfterwards() {
        new Router().does("type('/a')", "request(0, 0) -> -4", "count(13) -> 0", "type('/a')",
                "request(10, 0) -> -2", "count(13) -> 0", "type('a')", "request(0, 0) -> -7", "count(13) -> 0",
                "request(0, 0) -> -7", "count(13) -> 0");
        new Router().does("addBackend(0, 0, 1)", "setPattern(0, 254)", "rule('/=0')", "rule('/a=1')",
                "moveRule(1, 0)", "type('/b')", "request(0, 0) -> -6", "count(13) -> 0", "type('/b')",
                "request(0, 0) -> 0", "count(13) -> 0", "type('/a')", "request(0, 0) -> -5", "count(13) -> 0");
    }

    /** "Returns the answer": a backend's number, NO_ROUTE, NO_BACKEND, FAILED. */
    private static void answers() {
        new Router().does("ask('/a', 0, 0) -> -4", "addBackend(1, 0, 1)", "addBackend(0, 0, 1)",
                "rule('/a[1-8]=0')", "rule('/b=2,3')", "ask('/a', 0, 0) -> -4", "ask('/a', 9, 0) -> -4",
                "ask('/c', 5, 0) -> -4", "ask('/ab', 1, 0) -> 1", "ask('/a', 8, 2) -> 1",
                "ask('/b', 8, 2) -> -5", "addBackend(2, 0, 0)", "ask('/b', 8, 2) -> -5", "setPattern(1, 0)",
                "ask('/a', 5, 1) -> -6");
        new Router().does("addBackend(3, 0, 0) * 11", "addBackend(3, 0, 1)", "rule('/=3')",
                "ask('/', 0, 0) -> 11");
    }

    /** "requests that were answered", "by a backend", with NO_ROUTE, NO_BACKEND and FAILED, and attempts */
    private static void counts() {
        new Router().does("addBackend(0, 0, 1)", "addBackend(0, 0, 1)", "setPattern(0, 0)", "setPattern(1, 252)",
                "configure(0, 0, 9, 1, 0, 0)", "rule('/a=0*2')", "rule('/b=1')",
                "ask('/a', 0, 0) * 4 -> -6 -6 1 1", "ask('/b', 0, 0) * 3 -> -5 -5 -5", "ask('/c', 0, 0) -> -4",
                "ask('/a', 10, 0) -> -2", "ask('a', 0, 0) -> -7", "counts() -> 2 2 8 2 1 3 2 7 0 0 0 0 0 0");
    }

    /** "requests for which it was chosen", and "those of them that were answered by a backend" */
    private static void countsOfServices() {
        new Router().does("addBackend(0, 0, 1)", "addBackend(1, 0, 1)", "setPattern(0, 85)",
                "configure(0, 0, 9, 1, 0, 10)", "rule('/a=0')", "rule('/b=1,2')",
                "ask('/a', 0, 0) * 5 -> 0 -6 0 -6 0", "ask('/b', 0, 0) * 2 -> 1 1",
                "service(0) -> 0 9 1 0 10 350 1 0 5 3 0 0 0", "service(1) -> 0 3 5 50 20 340 1 0 2 2 0 0 0",
                "service(2) -> 0 3 5 50 20 300 0 0 0 0 0 0 0", "setWeight(1, 0)", "ask('/b', 0, 0) -> -5",
                "service(1) -> 0 3 5 50 20 340 0 0 2 2 0 0 0");
        // Also those that a further attempt answered.
        new Router().does("addBackend(0, 0, 1) * 2", "setPattern(0, 0)", "rule('/=0*2')", "ask('/', 0, 0) -> 1",
                "count(12) -> 2", "service(0, 8) -> 1", "service(0, 9) -> 1", "count(3) -> 1");
    }

    private static void keepsTheMarking() {
        Situations.USED.taken().does("count(11) -> 9", "ask('/', 0, 0)", "count(11) -> 10", "play(0) -> 0",
                "ask('/', 0, 5) -> -2", "ask('', 0, 0) -> -7", "count(11) -> 10", "play(0) -> 0");
    }

    private static void refused(String text, String... calls) {
        for (Steps situation : new Steps[] {Situations.NEW, Situations.USED, Situations.FULL}) {
            Situations.emptiesTheText(situation, text, calls);
        }
    }
}
