/** States of a router that tests start from; the typed text is empty in each. */
final class Situations {
    /** A new router. */
    static final Steps NEW = Steps.NONE;

    /**
     * Six backends and two rules after many answers: credits, spill, tokens, ejections, kept
     * backends, a trace, a printed text, a snapshot of an earlier state, and a mark with a recording.
     */
    static final Steps USED = Steps.of(
            "addBackend(0, 0, 1) -> 0", "addBackend(0, 0, 3) -> 1", "addBackend(0, 1, 1) -> 2",
            "addBackend(1, 1, 2) -> 3", "addBackend(1, 2, 1) -> 4", "addBackend(2, 0, 0) -> 5",
            "configure(0, 2, 1, 20, 50, 7) -> 0", "configure(1, 1, 2, 3, 100, 9) -> 0",
            "setPattern(1, 0) -> 255", "setPattern(3, 10) -> 255", "setZoneLimit(99) -> 70",
            "rule('/a[1-8]=0:2,1:3~1*3') -> 0", "rule('/=1,2~0*2') -> 1",
            "ask('/ab', 1, 0) * 3", "ask('/b', 0, 2)", "ask('/ab', 3, 1) * 2", "tick(2) -> 2",
            "print(1) -> 9", "save() -> 6",
            "ask('/a', 2, 0) * 3", "ask('/ab', 8, 1)", "mark() -> 6",
            "ask('/ab', 1, 0) * 3", "ask('/b', 0, 1)", "tick(3) -> 5", "ask('/ab', 4, 0) * 2");

    /** Twelve backends and eight rules; sixty steps are recorded. */
    static final Steps FULL = Steps.of(
            "addBackend(0, 0, 9)", "addBackend(0, 0, 9)", "addBackend(0, 1, 9)", "addBackend(0, 2, 9)",
            "addBackend(1, 0, 9)", "addBackend(1, 1, 8)", "addBackend(1, 2, 7)", "addBackend(2, 0, 1)",
            "addBackend(2, 1, 2)", "addBackend(2, 2, 3)", "addBackend(3, 0, 9)", "addBackend(3, 0, 9) -> 11",
            "setPattern(0, 0)", "setPattern(4, 170)", "configure(0, 0, 1, 20, 100, 100)",
            "rule('/c=1') -> 0", "rule('/=0,1,2') * 6 -> 1 2 3 4 5 6", "rule('/=0:9,1:9,2:9*4') -> 7",
            "print(7) -> 15", "mark() -> 12", "save() -> 12", "ask('/', 0, 0) * 9", "ask('/b', 0, 0)",
            "tick(50) -> 50", "count(11) -> 60", "count(12) -> 1");

    /** Forty requests and ticks are recorded, and each condition would have led elsewhere. */
    static final Steps MARKED = x -> {
        x.does("addBackend(0, 0, 1) * 2", "addBackend(0, 1, 1) * 2", "addBackend(0, 2, 1) * 2",
                "addBackend(1, 0, 1)", "addBackend(1, 1, 2) -> 7", "setPattern(0, 102)", "setPattern(2, 170)",
                "setPattern(4, 51)", "setPattern(6, 6)", "setPattern(7, 0)", "configure(0, 2, 1, 3, 67, 30)",
                "configure(1, 1, 1, 4, 100, 0)", "setZoneLimit(100)", "rule('/b=1')",
                "rule('/=0:2,1~0*3') -> 1", "mark() -> 8");
        for (int i = 0; i < 34; i++) {
            x.does((i % 5 == 4 ? "ask('/b', " : "ask('/', ") + i * 7 % 10 + ", " + i / 2 % 3 + ")");
            if (i % 6 == 5) {
                x.does("tick(1)");
            }
        }
        x.does("tick(1) -> 6", "count(11) -> 40");
    };

    private Situations() {
    }

    /** Makes a call in a situation; its answer is as due, and everything stays as it was. */
    static void changesNothing(Steps situation, String... calls) {
        for (String call : calls) {
            Check.same(call + " changes nothing",
                    Picture.of(situation.then(call)), Picture.of(situation));
        }
    }

    /** The same with a typed text, which alone is empty afterwards. */
    static void emptiesTheText(Steps situation, String text, String... calls) {
        for (String call : calls) {
            Check.same(call + " of " + text + " only empties the text",
                    Picture.of(situation.then("type('" + text + "')", call)), Picture.of(situation));
        }
    }
}
