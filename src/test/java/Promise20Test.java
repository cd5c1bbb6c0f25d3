/** count. */
public final class Promise20Test {
    public static void main(String[] args) {
        counts();
        recorded();
        typed();
        what();
        nothingChanges();
        Check.end();
    }

    /** All counts, most of them different. */
    private static void counts() {
        new Router().does("addBackend(0, 0, 1) * 3", "setPattern(0, 0)", "setPattern(1, 0)", "setPattern(2, 0)",
                "configure(0, 0, 1, 9, 67, 0)", "rule('/a=0~0*2')", "rule('/b=1')",
                "ask('/a', 0, 0) * 2 -> -6 -6", "ask('/b', 0, 0) * 3 -> -5 -5 -5",
                "ask('/', 0, 0) * 4 -> -4 -4 -4 -4", "tick(5)", "setPattern(2, 255)",
                "ask('/a', 0, 0) * 2 -> 2 2", "mark()", "ask('/a', 0, 0) -> 2", "tick(11)", "type('/abcdef')",
                "counts() -> 3 2 12 3 4 3 2 6 5 2 16 12 1 7");
    }

    /** "recorded requests and ticks": none before the mark, up to 60 */
    private static void recorded() {
        new Router().does("ask('/', 0, 0)", "tick(3)", "count(11) -> 0", "mark()", "count(11) -> 0",
                "ask('/', 0, 0)", "count(11) -> 1", "tick(50)", "count(11) -> 51", "tick(9)",
                "count(11) -> 60");
    }

    /** "characters of the text": from 0 to 40 */
    private static void typed() {
        Router x = new Router();
        for (int length = 0; length <= 40; length++) {
            x.does("count(13) -> " + length, "append(97, 1)");
        }
        x.does("count(13) -> 40", "addRule()", "count(13) -> 0");
    }

    /** "BAD_ARGUMENT if what is not from 0 to 13" */
    private static void what() {
        Situations.USED.taken().does("count(0) -> 6", "count(13) -> 0", "count(-1) -> -2", "count(14) -> -2",
                "count(min) -> -2", "count(max) -> -2");
    }

    private static void nothingChanges() {
        Situations.changesNothing(Situations.USED, "counts()", "count(14)");
    }
}
