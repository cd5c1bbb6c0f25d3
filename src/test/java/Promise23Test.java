/** mark: what it returns, what is recorded, and what ends the marking. */
public final class Promise23Test {
    private static final Steps MARKED = Steps.of("addBackend(0, 0, 1)", "addBackend(1, 0, 1)", "rule('/a=0')",
            "rule('/b=2')", "save()", "mark() -> 2", "ask('/a', 0, 0) -> 0", "count(11) -> 1");

    public static void main(String[] args) {
        numberOfBackends();
        fromThenOn();
        replacing();
        sixtyRequests();
        sixtyTicks();
        sixtyOfBoth();
        tooManyTicksAtOnce();
        whatEndsIt();
        afterTheEnd();
        whatDoesNot();
        errorsDoNot();
        changesNothingElse();
        Check.end();
    }

    /** "Returns the number of backends." */
    private static void numberOfBackends() {
        new Router().does("mark() -> 0", "addBackend(0, 0, 0) -> 0", "mark() -> 1");
        Situations.FULL.taken().does("mark() -> 12");
    }

    /** "from then on the requests and ticks are recorded ... as calls of request and single ticks" */
    private static void fromThenOn() {
        new Router().does("ask('/', 0, 0)", "tick(2)", "count(11) -> 0", "mark()", "count(11) -> 0",
                "ask('/', 0, 0) -> -4", "count(11) -> 1", "tick(3)", "count(11) -> 4", "ask('/', 9, 2)",
                "count(11) -> 5");
        MARKED.taken().does("ask('/b', 0, 0) -> -5", "count(11) -> 2", "ask('/c', 0, 0) -> -4", "count(11) -> 3",
                "setPattern(0, 0)", "mark()", "ask('/a', 0, 0) -> -6", "count(11) -> 1");
    }

    /** "Marks the present state, replacing an earlier mark." */
    private static void replacing() {
        MARKED.taken().does("answeredIf(0) -> 1", "mark() -> 2", "count(11) -> 0", "answeredIf(0) -> 0",
                "play(0) -> 0", "ask('/a', 0, 0)", "answeredIf(0) -> 1");
        // Played from the second mark, where backend 0 has made an attempt more.
        new Router().does("addBackend(0, 0, 1)", "setPattern(0, 170)", "configure(0, 0, 9, 1, 0, 0)",
                "rule('/=0')", "mark()", "ask('/', 0, 0) -> -6", "answeredIf(0) -> 0", "mark()",
                "ask('/', 0, 0) -> 0", "answeredIf(0) -> 1", "play(0) -> 0");
    }

    /** "at most 60 of them"; "a call that would exceed this ... ends the marking" */
    private static void sixtyRequests() {
        MARKED.taken().does("mark()", "ask('/a', 0, 0) * 59", "count(11) -> 59", "ask('/a', 0, 0) -> 0",
                "count(11) -> 60", "answeredIf(0) -> 60", "ask('/a', 0, 5) -> -2", "ask('a', 0, 0) -> -7",
                "count(11) -> 60", "play(0) -> 0", "ask('/a', 0, 0) -> 0", "count(11) -> 0", "play(0) -> -1",
                "answeredIf(0) -> -1", "count(2) -> 62");
    }

    private static void sixtyTicks() {
        Steps sixty = Steps.of("mark()", "tick(50)", "tick(9)", "tick(1) -> 60", "count(11) -> 60",
                "play(0) -> 0");
        sixty.taken().does("tick(51) -> -2", "count(11) -> 60", "tick(1) -> 61", "count(11) -> 0",
                "play(0) -> -1");
        sixty.taken().does("ask('/', 0, 0) -> -4", "count(11) -> 0", "play(0) -> -1");
        new Router().does("mark()", "tick(30) * 2", "count(11) -> 60", "play(4) -> 0");
    }

    private static void sixtyOfBoth() {
        MARKED.taken().does("tick(50)", "ask('/a', 0, 0) * 9", "count(11) -> 60", "play(0) -> 0",
                "answeredIf(0) -> 10", "tick(1)", "count(11) -> 0", "play(0) -> -1");
    }

    /** "If the ticks of a call would make more than 60, none of them is recorded", but they are performed. */
    private static void tooManyTicksAtOnce() {
        new Router().does("mark()", "tick(50)", "tick(11) -> 61", "count(11) -> 0", "play(0) -> -1",
                "count(10) -> 61");
        new Router().does("mark()", "tick(11)", "tick(50) -> 61", "count(11) -> 0", "play(0) -> -1");
        new Router().does("mark()", "tick(11)", "tick(49) -> 60", "count(11) -> 60", "play(0) -> 0");
        MARKED.taken().does("ask('/a', 0, 0) * 40", "tick(20) -> 20", "count(11) -> 0", "play(0) -> -1");
        MARKED.taken().does("ask('/a', 0, 0) * 40", "tick(19) -> 19", "count(11) -> 60", "play(0) -> 0");
    }

    /** "any other call that changes something but mark, save and append, ends the marking" */
    private static void whatEndsIt() {
        for (String call : new String[] {"addBackend(3, 0, 0) -> 2", "setWeight(0, 1) -> 1", "setWeight(0, 2) -> 1",
            "setPattern(0, 255) -> 255", "setPattern(0, 1) -> 255", "configure(0, 0, 3, 5, 50, 20) -> 0",
            "configure(0, 1, 3, 5, 50, 20) -> 0", "setZoneLimit(70) -> 70", "setZoneLimit(71) -> 70",
            "rule('/=0') -> 2", "removeRule(1) -> 1", "moveRule(1, 1) -> 0", "moveRule(1, 0) -> 1", "restore() -> 2"}) {
            Router x = MARKED.taken().does(call, "count(11) -> 0");
            for (int condition = 0; condition < 5; condition++) {
                x.does("play(" + condition + ") -> -1", "answeredIf(" + condition + ") -> -1");
            }
        }
    }

    /** Nothing is recorded without a mark; a new one begins again. */
    private static void afterTheEnd() {
        MARKED.taken().does("setZoneLimit(70)", "ask('/a', 0, 0) -> 0", "tick(2)", "count(11) -> 0",
                "play(0) -> -1", "mark() -> 2", "count(11) -> 0", "play(0) -> 0", "ask('/a', 0, 0) -> 0",
                "count(11) -> 1", "answeredIf(0) -> 1");
    }

    private static void whatDoesNot() {
        for (String call : new String[] {"append(47, 1) -> 1", "save() -> 2", "print(0) -> 4", "match(0) -> -7",
            "matched('/a', 0) -> 0", "foreseen('/a', 0, 0) -> 0", "play(1) -> 0", "answeredIf(2) -> 1",
            "backend(0)", "service(0)", "kept(0)", "targets(0)", "trace()", "counts()", "printed(0)"}) {
            MARKED.taken().does(call, "count(11) -> 1", "play(0) -> 0", "answeredIf(0) -> 1");
        }
    }

    /** "a call that returns an error code, or BAD_TEXT, does not"; nor does NONE, which changes nothing. */
    private static void errorsDoNot() {
        for (String call : new String[] {"addBackend(4, 0, 0) -> -2", "setWeight(2, 0) -> -1",
            "setWeight(0, 10) -> -2", "setPattern(2, 0) -> -1", "setPattern(0, 256) -> -2", "configure(0, 3, 3, 5, 50, 20) -> -2",
            "setZoneLimit(0) -> -2", "append(128, 1) -> -2", "rule('/=') -> -102", "addRule() -> -100",
            "removeRule(2) -> -1", "moveRule(2, 0) -> -1", "moveRule(0, 2) -> -2", "match(10) -> -2",
            "ask('/a', 10, 0) -> -2", "ask('b', 0, 0) -> -7", "foreseen('b', 0, 0) -> -7", "tick(0) -> -2",
            "tick(51) -> -2", "backend(2, 0) -> -1", "print(2) -> -1", "play(5) -> -2", "answeredIf(-1) -> -2"}) {
            MARKED.taken().does(call, "count(11) -> 1", "play(0) -> 0", "answeredIf(0) -> 1");
        }
        new Router().does("mark()", "restore() -> -1", "tick(1)", "count(11) -> 1", "play(0) -> 0");
        Situations.FULL.taken().does("addBackend(0, 0, 1) -> -3", "rule('/=0') -> -3", "append(47, 40)",
                "append(47, 1) -> -3", "count(11) -> 60", "play(0) -> 0");
    }

    /** It leaves all but the mark: also the snapshot, the texts and the trace. */
    private static void changesNothingElse() {
        Situations.changesNothing(Situations.NEW.then("mark()"), "mark() -> 0");
        Steps marked = Situations.USED.then("mark()", "type('/ab')");
        Situations.changesNothing(marked, "mark() -> 6");
        Check.same("the state", Picture.ofState(Situations.USED.then("mark()")), Picture.ofState(Situations.USED));
        Check.same("the state", Picture.ofState(Situations.USED.then("mark()", "restore()")),
                Picture.ofState(Situations.USED.then("restore()")));
    }
}
