/** restore. */
public final class Promise27Test {
    private static final String[] CHANGES = {"ask('/ab', 1, 0) * 3", "ask('/', 0, 2) * 2", "ask('/ab', 5, 1)",
        "ask('/zz', 9, 0)", "tick(2)", "setWeight(0, 5)", "setPattern(2, 99)", "configure(0, 1, 9, 1, 1, 1)",
        "configure(3, 1, 9, 1, 1, 1)", "setZoneLimit(9)", "addBackend(3, 2, 1)", "moveRule(0, 1)", "removeRule(0)",
        "rule('/q=3')", "rule('/q=3,0,1~1*4')", "ask('/q', 0, 0) * 3", "mark()", "ask('/q', 0, 0) * 2", "tick(1)", "print(0)"};

    public static void main(String[] args) {
        numberOfBackends();
        noSnapshot();
        everything();
        fromFewerAndMore();
        snapshotIsKept();
        emptyTrace();
        textsStay();
        endsTheMarking();
        Check.end();
    }

    /** "Returns the number of backends": of those that there are then. */
    private static void numberOfBackends() {
        new Router().does("save() -> 0", "addBackend(0, 0, 1) * 12", "restore() -> 0", "count(0) -> 0", "backend(0, 0) -> -1");
        Situations.FULL.taken().does("restore() -> 12");
    }

    /** "NONE if there is no snapshot" */
    private static void noSnapshot() {
        Situations.changesNothing(Situations.NEW, "restore() -> -1");
        Situations.changesNothing(Steps.of("addBackend(0, 0, 1)", "rule('/=0')", "mark()", "ask('/', 0, 0)", "type('/a')"),
                "restore() -> -1");
    }

    /** "Restores the snapshot": whatever was done since, the state and what follows are the same. */
    private static void everything() {
        for (Steps situation : new Steps[] {Situations.NEW, Situations.USED, Situations.FULL}) {
            Steps restored = situation.then("save()").then(CHANGES).then("restore()");
            Check.same("the state", Picture.ofState(restored), Picture.ofState(situation));
            Check.same("the state", Picture.ofState(situation.then("save()", "restore()")), Picture.ofState(situation));
        }
    }

    private static void fromFewerAndMore() {
        Steps more = Situations.USED.then("save()", "removeRule(0)", "removeRule(0)", "restore()");
        Check.same("with the rules that were gone", Picture.ofState(more), Picture.ofState(Situations.USED));
        new Router().does("save()", "rule('/=0') * 8", "restore() -> 0", "count(1) -> 0", "matched('/', 0) -> -1",
                "rule('/=1') -> 0", "targets(0) -> 1,1,0,0");
    }

    /** "which is kept" */
    private static void snapshotIsKept() {
        Steps twice = Situations.USED.then("save()", "setWeight(0, 9)", "restore() -> 6", "setWeight(0, 8)",
                "ask('/', 0, 0) * 3", "removeRule(0)", "restore() -> 6");
        Check.same("the state", Picture.ofState(twice), Picture.ofState(Situations.USED));
        Steps nine = twice.then("tick(1)", "restore() -> 6", "restore() -> 6");
        Check.same("the state", Picture.ofState(nine), Picture.ofState(Situations.USED));
    }

    /** "The trace is empty then." */
    private static void emptyTrace() {
        Situations.USED.taken().does("count(12) -> 1", "restore()", "count(12) -> 0", "trace(0, 0) -> -1");
        new Router().does("addBackend(0, 0, 1)", "rule('/=0')", "ask('/', 0, 0) -> 0", "save()", "count(12) -> 1",
                "restore()", "count(12) -> 0", "trace(0, 0) -> -1");
    }

    /** "The printed text is not saved, and restoring leaves it"; and the typed text is not saved either. */
    private static void textsStay() {
        Router x = new Router().does("rule('/ab=0')", "print(0)", "type('/')", "save()", "rule('') -> -101", "rule('/c=1') -> 1",
                "print(1)", "type('/c')", "restore()", "count(13) -> 2", "append(42, 1) -> 3", "addRule() -> -102");
        Check.due("the printed text", x.printed(), "/c=1");
    }

    /** It changes something, and is not mark, save or append. */
    private static void endsTheMarking() {
        Situations.USED.taken().does("count(11) -> 9", "restore() -> 6", "count(11) -> 0", "play(0) -> -1",
                "answeredIf(0) -> -1", "ask('/', 0, 0)", "count(11) -> 0");
        new Router().does("save()", "mark()", "restore() -> 0", "play(0) -> -1");
    }
}
