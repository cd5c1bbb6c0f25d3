/** save. */
public final class Promise26Test {
    public static void main(String[] args) {
        numberOfBackends();
        replacing();
        notTheRest();
        keepsTheMarking();
        changesNothingElse();
        Check.end();
    }

    /** "Returns the number of backends." */
    private static void numberOfBackends() {
        new Router().does("save() -> 0", "addBackend(0, 0, 0) -> 0", "save() -> 1");
        Situations.FULL.taken().does("save() -> 12");
    }

    /** "replacing an earlier snapshot" */
    private static void replacing() {
        new Router().does("addBackend(0, 0, 1)", "save() -> 1", "setWeight(0, 7)", "addBackend(0, 0, 1)",
                "save() -> 2", "setWeight(0, 8)", "restore() -> 2", "backend(0, 2) -> 7", "save() -> 2",
                "restore() -> 2");
        Check.same("a later snapshot", Picture.ofState(Situations.USED.then("save()", "removeRule(0)",
                "restore()")),
                Picture.ofState(Situations.USED));
        // One with fewer backends and rules after one with more.
        new Router().does("addBackend(0, 0, 1)", "rule('/=0')", "save() -> 1", "addBackend(0, 0, 1)",
                "rule('/a=0')", "save() -> 2", "removeRule(0)", "removeRule(0)", "save() -> 2", "rule('/b=0')",
                "restore() -> 2", "count(1) -> 0");
    }

    /** "everything but the text, the trace and the mark" */
    private static void notTheRest() {
        new Router().does("addBackend(0, 0, 1)", "rule('/=0')", "mark()", "ask('/', 0, 0) -> 0", "type('/a')",
                "save()", "count(13) -> 2", "count(12) -> 1", "count(11) -> 1", "type('b') -> 3",
                "restore() -> 1", "count(13) -> 3", "count(12) -> 0", "count(11) -> 0", "play(0) -> -1",
                "request(0, 0) -> 0");
    }

    /** "any other call that changes something but mark, save and append, ends the marking" */
    private static void keepsTheMarking() {
        Situations.USED.taken().does("count(11) -> 9", "save() -> 6", "count(11) -> 9", "play(0) -> 0", "tick(1)",
                "count(11) -> 10", "play(0) -> 0");
    }

    private static void changesNothingElse() {
        Steps saved = Situations.USED.then("save()", "type('/ab')");
        Situations.changesNothing(saved, "save() -> 6");
        Situations.changesNothing(Situations.FULL.then("save()"), "save() -> 12");
        Check.same("the state", Picture.ofState(Situations.USED.then("save()")), Picture.ofState(Situations.USED));
    }
}
