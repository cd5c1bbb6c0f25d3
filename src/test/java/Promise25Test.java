/** answeredIf; the conditions are those of play. */
public final class Promise25Test {
    public static void main(String[] args) {
        condition();
        nothingMarked();
        eachCondition();
        onlyBackendsCount();
        mostAndFewest();
        nothingChanges();
        Check.end();
    }

    /** "condition: the condition, 0 to 4" */
    private static void condition() {
        Situations.USED.taken().does("answeredIf(0) -> 4");
        Check.holds("answeredIf(4) is answered", Situations.USED.taken().call("answeredIf", 4) >= 0);
        Situations.changesNothing(Situations.USED, "answeredIf(-1) -> -2", "answeredIf(5) -> -2",
                "answeredIf(min) -> -2", "answeredIf(max) -> -2");
    }

    /** "NONE if nothing is marked", which is listed behind BAD_ARGUMENT. */
    private static void nothingMarked() {
        Situations.changesNothing(Situations.NEW, "answeredIf(0) -> -1", "answeredIf(4) -> -1",
                "answeredIf(-1) -> -2", "answeredIf(5) -> -2");
        Situations.changesNothing(Situations.USED.then("setWeight(0, 1)"), "answeredIf(0) -> -1",
                "answeredIf(4) -> -1", "answeredIf(5) -> -2");
    }

    /** "Returns the number of requests that a backend answers then" */
    private static void eachCondition() {
        Router x = new Router().does("addBackend(0, 0, 1) * 2", "setPattern(0, 0)", "configure(0, 2, 2, 9, 50, 0)",
                "rule('/=0*2')", "rule('/=1')", "mark()", "ask('/', 0, 0) * 2 -> 1 1", "ask('/', 1, 0) -> 1",
                "ask('/', 2, 0) -> 1", "ask('/', 3, 0) -> 1");
        // With one attempt: 0 fails for value 0 and stays remembered, fails again and is ejected.
        x.does("answeredIf(0) -> 5", "answeredIf(1) -> 3", "answeredIf(2) -> 5", "answeredIf(3) -> 5",
                "answeredIf(4) -> 5");
    }

    /** Neither ticks nor requests that are answered NO_ROUTE, NO_BACKEND or FAILED. */
    private static void onlyBackendsCount() {
        new Router().does("addBackend(0, 0, 1)", "setPattern(0, 253)", "rule('/a=0')", "rule('/b=1')", "mark()",
                "tick(3)", "answeredIf(0) -> 0", "ask('/a', 0, 0) -> 0", "answeredIf(0) -> 1",
                "ask('/a', 0, 0) -> -6", "ask('/b', 0, 0) -> -5", "ask('/c', 0, 0) -> -4",
                "answeredIf(0) -> 1");
    }

    private static void mostAndFewest() {
        Steps marked = Steps.of("addBackend(0, 0, 1)", "rule('/=0')", "mark()");
        marked.taken().does("answeredIf(0) -> 0", "ask('/', 0, 0) * 60", "answeredIf(0) -> 60",
                "answeredIf(4) -> 60");
        marked.then("setPattern(0, 0)", "configure(0, 0, 9, 1, 0, 0)", "mark()").taken()
                .does("ask('/', 0, 0) * 60", "answeredIf(0) -> 0");
    }

    private static void nothingChanges() {
        for (Steps situation : new Steps[] {Situations.USED, Situations.USED.then("type('/ab')"), Situations.FULL,
            Situations.MARKED}) {
            Situations.changesNothing(situation, "answeredIf(0)", "answeredIf(1)", "answeredIf(2)",
                    "answeredIf(3)", "answeredIf(4)");
        }
    }
}
