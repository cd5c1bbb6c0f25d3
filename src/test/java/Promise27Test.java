/** restore. */
public final class Promise27Test {
    private static final String[] CHANGES = {"ask('/ab', 1, 0) * 3", "ask('/', 0, 2) * 2", "ask('/ab', 5, 1)",
        "ask('/zz', 9, 0)", "tick(2)", "setWeight(0, 5)", "setPattern(2, 99)", "configure(0, 1, 9, 1, 1, 1)",
        "configure(3, 1, 9, 1, 1, 1)", "setZoneLimit(9)", "addBackend(3, 2, 1)", "moveRule(0, 1)", "removeRule(0)",
        "rule('/q=3')", "rule('/y=2')", "setWeight(5, 0)", "ask('/y', 0, 0)", "rule('/q=3,0,1~1*4')",
        "ask('/q', 0, 0) * 3", "mark()", "ask('/q', 0, 0) * 2", "tick(1)", "print(0)"};

    public static void main(String[] args) {
        numberOfBackends();
        noSnapshot();
        everything();
        fromFewerAndMore();
        countsAndSpill();
        rememberedOnes();
        goneOnes();
        snapshotIsKept();
        emptyTrace();
        textsStay();
        endsTheMarking();
        Check.end();
    }

    /** "Returns the number of backends": of those that there are then. */
    private static void numberOfBackends() {
        new Router().does("save() -> 0", "addBackend(0, 0, 1) * 12", "restore() -> 0", "count(0) -> 0",
                "backend(0, 0) -> -1");
        Situations.FULL.taken().does("restore() -> 12");
    }

    /** "NONE if there is no snapshot" */
    private static void noSnapshot() {
        Situations.changesNothing(Situations.NEW, "restore() -> -1");
        Situations.changesNothing(Steps.of("addBackend(0, 0, 1)", "rule('/=0')", "mark()", "ask('/', 0, 0)",
                "type('/a')"), "restore() -> -1");
    }

    /** "Restores the snapshot": whatever was done since, the state and what follows are the same. */
    private static void everything() {
        for (Steps situation : new Steps[] {Situations.NEW, Situations.USED, Situations.FULL}) {
            Steps restored = situation.then("save()").then(CHANGES).then("restore()");
            Check.same("the state", Picture.ofState(restored), Picture.ofState(situation));
            Check.same("the state", Picture.ofState(situation.then("save()", "restore()")),
                    Picture.ofState(situation));
        }
    }

    private static void fromFewerAndMore() {
        Steps more = Situations.USED.then("save()", "removeRule(0)", "removeRule(0)", "restore()");
        Check.same("with the rules that were gone", Picture.ofState(more), Picture.ofState(Situations.USED));
        new Router().does("save()", "rule('/=0') * 8", "restore() -> 0", "count(1) -> 0", "matched('/', 0) -> -1",
                "rule('/=1') -> 0", "targets(0) -> 1,1,0,0");
    }

    /** All counts, and the spill of each zone, have other values afterwards; restored, they have the old ones. */
    private static void countsAndSpill() {
        Steps before = Steps.of("addBackend(0, 0, 1) * 2", "addBackend(0, 1, 1) * 2", "addBackend(0, 2, 1) * 2",
                "setPattern(0, 0)", "setPattern(2, 0)", "setPattern(4, 0)", "configure(0, 1, 1, 20, 100, 10)",
                "setZoneLimit(100)", "rule('/=0~0')", "rule('/b=1')", "moveRule(1, 0)",
                "ask('/', 0, 0) * 2 -> -6 -6", "ask('/', 0, 1) -> 1", "ask('/', 0, 2) -> -6",
                "ask('/', 0, 2) -> 3", "ask('/b', 0, 0) -> -5", "tick(3)");
        String service = "service(0) -> 1 1 20 100 10 350 6 3 5 2 50 50 50";
        String counts = "counts() -> 6 2 6 2 0 1 3 5 5 3 3 0 0 0";
        Steps saved = before.then("save()", "restore()", service, counts);
        saved.taken().does("ask('/', 0, 0)", "ask('/', 0, 1)", "ask('/', 0, 2)", "ask('/b', 0, 0)",
                "setPattern(1, 0)", "ask('/', 0, 0) * 3", "addBackend(0, 0, 0)", "removeRule(0)",
                "removeRule(0)", "ask('/', 0, 0) -> -4", "tick(1)", "restore() -> 6", service, counts);
    }

    /** What is remembered for each header value is as it was. */
    private static void rememberedOnes() {
        Router x = new Router().does("addBackend(3, 0, 1) * 10", "configure(3, 2, 9, 1, 0, 0)", "rule('/=3')",
                "save() -> 10");
        for (int header = 0; header < 10; header++) {
            x.does("ask('/', " + header + ", 0) -> " + header);
        }
        x.does("kept(3) -> 0 1 2 3 4 5 6 7 8 9", "restore()", "kept(3) -> -1 -1 -1 -1 -1 -1 -1 -1 -1 -1");
        for (int header = 9; header >= 0; header--) {
            x.does("ask('/', " + header + ", 0) -> " + (9 - header));
        }
        x.does("save()", "setWeight(0, 0)", "setWeight(9, 0)", "ask('/', 9, 0)", "ask('/', 0, 0)",
                "setWeight(5, 0)", "ask('/', 4, 0)", "restore()", "kept(3) -> 9 8 7 6 5 4 3 2 1 0");
    }

    /** Backends and targets that are gone have no part in what follows. */
    private static void goneOnes() {
        Steps one = Steps.of("addBackend(0, 0, 1)", "rule('/=0')", "save()");
        one.taken().does("addBackend(0, 0, 9)", "ask('/', 0, 0) -> 1", "restore() -> 1",
                "ask('/', 0, 0) * 3 -> 0 0 0", "backend(0) -> 0 0 1 255 0 3 3 0 0 0 0 0");
        one.taken().does("addBackend(0, 0, 9)", "setWeight(0, 0)", "setPattern(1, 0)",
                "configure(0, 2, 1, 9, 100, 0)", "ask('/', 0, 0) -> -6", "restore() -> 1", "service(0, 7) -> 0",
                "ask('/', 0, 0) -> 0", "service(0) -> 0 3 5 50 20 320 1 0 1 1 0 0 0");
        one.taken().does("addBackend(0, 1, 9)", "addBackend(1, 0, 9)", "removeRule(0)", "rule('/=1:9,0:9~0*4')",
                "ask('/', 0, 0) -> 2", "restore() -> 1", "targets(0) -> 0,1,0,0", "ask('/', 0, 1) * 2 -> 0 0",
                "targets(0) -> 0,1,0,2", "count(8) -> 0");
    }

    /** "which is kept" */
    private static void snapshotIsKept() {
        Steps twice = Situations.USED.then("save()", "setWeight(0, 9)", "restore() -> 6", "setWeight(0, 8)",
                "ask('/', 0, 0) * 3", "removeRule(0)", "restore() -> 6");
        Check.same("the state", Picture.ofState(twice), Picture.ofState(Situations.USED));
        Steps nine = twice.then("tick(1)", "restore() -> 6", "restore() -> 6");
        Check.same("the state", Picture.ofState(nine), Picture.ofState(Situations.USED));
    }

    /** "The trace is empty then." */
    private static void emptyTrace() {
        Situations.USED.taken().does("count(12) -> 1", "restore()", "count(12) -> 0", "trace(0, 0) -> -1");
        new Router().does("addBackend(0, 0, 1)", "rule('/=0')", "ask('/', 0, 0) -> 0", "save()", "count(12) -> 1",
                "restore()", "count(12) -> 0", "trace(0, 0) -> -1");
    }

    /** "The printed text is not saved, and restoring leaves it"; and the typed text is not saved either. */
    private static void textsStay() {
        Router x = new Router().does("rule('/ab=0')", "print(0)", "type('/')", "save()", "rule('') -> -101",
                "rule('/c=1') -> 1", "print(1)", "type('/c')", "restore()", "count(13) -> 2",
                "append(42, 1) -> 3", "addRule() -> -102");
        Check.due("the printed text", x.printed(), "/c=1");
    }

    /** It changes something, and is not mark, save or append. */
    private static void endsTheMarking() {
        Situations.USED.taken().does("count(11) -> 9", "restore() -> 6", "count(11) -> 0", "play(0) -> -1",
                "answeredIf(0) -> -1", "ask('/', 0, 0)", "count(11) -> 0");
        new Router().does("save()", "mark()", "restore() -> 0", "play(0) -> -1");
    }
}
