/** append. */
public final class Promise07Test {
    public static void main(String[] args) {
        length();
        severalTimes();
        code();
        count();
        full();
        firstError();
        keepsTheMarking();
        Check.end();
    }

    /** "Returns the length of the text afterwards" */
    private static void length() {
        new Router().does("append(97, 1) -> 1", "append(98, 2) -> 3", "append(97, 1) -> 4", "count(13) -> 4");
    }

    /** "Appends a character to the text several times." */
    private static void severalTimes() {
        new Router().does("append(47, 2)", "append(97, 36)", "append(61, 1)", "append(50, 1) -> 40",
                "addRule() -> 0", "shown(0) -> //" + "a".repeat(36) + "=2");
    }

    /** "code: the character, 0 to 127" */
    private static void code() {
        new Router().does("append(0, 1) -> 1", "append(127, 1) -> 2", "addRule() -> -100", "append(47, 1) -> 1",
                "append(0, 1) -> 2", "addRule() -> -101", "append(47, 1) -> 1", "append(127, 1) -> 2",
                "addRule() -> -101");
        refused("append(-1, 1) -> -2", "append(128, 1) -> -2", "append(303, 1) -> -2", "append(min, 1) -> -2",
                "append(max, 1) -> -2");
    }

    /** "count: how many times, 1 to 40" */
    private static void count() {
        new Router().does("append(97, 1) -> 1", "count(13) -> 1");
        new Router().does("append(47, 40) -> 40", "count(13) -> 40", "match(0) -> -1");
        refused("append(97, 0) -> -2", "append(97, 41) -> -2", "append(97, -1) -> -2", "append(97, min) -> -2",
                "append(97, max) -> -2");
    }

    /** "FULL if the text would have more than 40 characters" */
    private static void full() {
        new Router().does("append(97, 39) -> 39", "append(97, 2) -> -3", "count(13) -> 39",
                "append(97, 1) -> 40", "append(97, 1) -> -3", "append(97, 40) -> -3", "count(13) -> 40");
        new Router().does("append(97, 1) -> 1", "append(97, 40) -> -3", "append(97, 39) -> 40");
        Steps one = Situations.USED.then("type('/')");
        Situations.changesNothing(one, "append(97, 40) -> -3");
        Steps full = Situations.USED.then("append(47, 40) -> 40");
        Situations.changesNothing(full, "append(97, 1) -> -3", "append(97, 40) -> -3", "append(0, 1) -> -3");
    }

    /** "If several errors apply, the one that is listed first at the method is returned." */
    private static void firstError() {
        Steps full = Situations.USED.then("append(47, 40) -> 40");
        Situations.changesNothing(full, "append(128, 1) -> -2", "append(-1, 1) -> -2", "append(97, 0) -> -2",
                "append(97, 41) -> -2", "append(128, 41) -> -2");
    }

    /** "any other call that changes something but mark, save and append, ends the marking" */
    private static void keepsTheMarking() {
        Situations.USED.taken().does("count(11) -> 9", "append(97, 3) -> 3", "append(97, 37) -> 40",
                "count(11) -> 9", "play(0) -> 0");
    }

    private static void refused(String... calls) {
        Situations.changesNothing(Situations.NEW, calls);
        Situations.changesNothing(Situations.USED, calls);
        Situations.changesNothing(Situations.USED.then("type('/ab=3')"), calls);
    }
}
