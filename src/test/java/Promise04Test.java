/** setPattern, and how attempts succeed by a pattern. */
public final class Promise04Test {
    public static void main(String[] args) {
        previousPattern();
        pattern();
        noSuchBackend();
        eachBit();
        numberingGoesOn();
        theRestStays();
        endsTheMarking();
        Check.end();
    }

    /** "Returns the previous pattern", which is "at first 255". */
    private static void previousPattern() {
        new Router().does("addBackend(0, 0, 3)", "addBackend(0, 0, 3)", "setPattern(0, 77) -> 255",
                "backend(0, 3) -> 77", "backend(1, 3) -> 255", "setPattern(0, 77) -> 77",
                "setPattern(0, 1) -> 77");
    }

    /** "pattern: the pattern, 0 to 255" */
    private static void pattern() {
        new Router().does("addBackend(0, 0, 3)", "setPattern(0, 0) -> 255", "backend(0, 3) -> 0",
                "setPattern(0, 255) -> 0", "backend(0, 3) -> 255");
        Situations.changesNothing(Situations.USED, "setPattern(1, -1) -> -2", "setPattern(1, 256) -> -2",
                "setPattern(1, min) -> -2", "setPattern(1, max) -> -2");
    }

    /** "NONE if there is no such backend", which is listed before BAD_ARGUMENT. */
    private static void noSuchBackend() {
        Situations.changesNothing(Situations.NEW, "setPattern(0, 1) -> -1", "setPattern(0, 256) -> -1");
        Situations.USED.taken().does("setPattern(5, 1) -> 255");
        Situations.changesNothing(Situations.USED, "setPattern(-1, 1) -> -1", "setPattern(6, 1) -> -1",
                "setPattern(-1, 256) -> -1", "setPattern(6, -1) -> -1", "setPattern(min, 1) -> -1",
                "setPattern(max, 1) -> -1");
        Situations.FULL.taken().does("setPattern(11, 1) -> 255");
        Situations.changesNothing(Situations.FULL, "setPattern(12, 1) -> -1");
    }

    /** "attempt k succeeds if bit k modulo 8 of the pattern is 1; otherwise it fails" */
    private static void eachBit() {
        for (int bit = 0; bit < 8; bit++) {
            Router x = failing(1 << bit);
            Router y = failing(255 - (1 << bit));
            for (int attempt = 0; attempt < 17; attempt++) {
                boolean hit = attempt % 8 == bit;
                x.does("ask('/', 0, 0) -> " + (hit ? 0 : -6));
                y.does("ask('/', 0, 0) -> " + (hit ? -6 : 0));
            }
            x.does("backend(0, 5) -> 17", "backend(0, 6) -> " + (bit == 0 ? 3 : 2));
            y.does("backend(0, 5) -> 17", "backend(0, 6) -> " + (bit == 0 ? 14 : 15));
        }
    }

    /** "The numbering of its attempts goes on." */
    private static void numberingGoesOn() {
        failing(0).does("ask('/', 0, 0) * 3 -> -6 -6 -6", "setPattern(0, 8)", "ask('/', 0, 0) * 2 -> 0 -6",
                "setPattern(0, 128)", "ask('/', 0, 0) * 4 -> -6 -6 0 -6", "backend(0, 5) -> 9");
    }

    /** Nothing but the pattern is another one: the failure run stays, too. */
    private static void theRestStays() {
        failing(254).does("ask('/', 0, 0) -> -6", "ask('/', 0, 0) -> 0", "setPattern(0, 0)",
                "ask('/', 0, 0) * 2 -> -6 -6", "backend(0) -> 0 0 1 0 0 4 1 2 0 0 0 0", "setPattern(0, 255)",
                "backend(0) -> 0 0 1 255 0 4 1 2 0 0 0 0");
    }

    /** "also if nothing is different afterwards" */
    private static void endsTheMarking() {
        Situations.USED.taken().does("play(0) -> 0", "setPattern(1, 0) -> 0", "play(0) -> -1", "count(11) -> 0");
    }

    /** One backend with a pattern, which is never ejected. */
    private static Router failing(int pattern) {
        return new Router().does("addBackend(0, 0, 1)", "configure(0, 0, 9, 1, 0, 0)", "rule('/=0')",
                "setPattern(0, " + pattern + ")");
    }
}
