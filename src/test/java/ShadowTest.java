/** Shadows (promise 12). */
public final class ShadowTest {
    public static void main(String[] args) {
        fewestAttempts();
        fewestAnywhere();
        lowestNumber();
        byItsPattern();
        noMember();
        ejectedOrNot();
        ownShadow();
        nothingElseChanges();
        Check.end();
    }

    /** "the member of the shadow service with the fewest shadow attempts" */
    private static void fewestAttempts() {
        new Router().does("addBackend(0, 0, 1)", "addBackend(1, 0, 1)", "addBackend(1, 1, 9)",
                "addBackend(1, 2, 0)", "rule('/=0~1')", "ask('/', 0, 0) * 5", "backend(1, 10) -> 3",
                "backend(2, 10) -> 2", "backend(3, 10) -> 0", "setWeight(3, 1)", "ask('/', 0, 0) * 2",
                "backend(1, 10) -> 3", "backend(2, 10) -> 2", "backend(3, 10) -> 2", "ask('/', 0, 0) * 2",
                "backend(1, 10) -> 3", "backend(2, 10) -> 3", "backend(3, 10) -> 3");
    }

    /** The fewest may be those of the first one, of one between and of the last one. */
    private static void fewestAnywhere() {
        for (int fewest = 0; fewest < 3; fewest++) {
            Router x = new Router().does("addBackend(1, 0, 1) * 3", "rule('/=0~1')",
                    "setWeight(" + fewest + ", 0)", "ask('/', 0, 0) * 6", "backend(" + fewest + ", 10) -> 0",
                    "setWeight(" + fewest + ", 1)");
            x.does("ask('/', 0, 0) * 3", "backend(" + fewest + ", 10) -> 3", "count(8) -> 9", "ask('/', 0, 0)",
                    "backend(0, 10) -> 4", "backend(1, 10) -> 3", "backend(2, 10) -> 3");
        }
    }

    /** "of several the one with the lowest number" */
    private static void lowestNumber() {
        Router x = new Router().does("addBackend(1, 0, 1) * 3", "rule('/=0~1')");
        for (int i = 0; i < 7; i++) {
            x.does("backend(" + i % 3 + ", 10) -> " + i / 3, "ask('/', 0, 0)",
                    "backend(" + i % 3 + ", 10) -> " + (i / 3 + 1));
        }
    }

    /** "Its shadow attempts are numbered from 0 and succeed by its pattern, likewise": bit k modulo 8 */
    private static void byItsPattern() {
        for (int bit = 0; bit < 8; bit++) {
            Router x = new Router().does("addBackend(1, 0, 1)", "setPattern(0, " + (1 << bit) + ")",
                    "rule('/=0~1')");
            for (int attempt = 0; attempt < 18; attempt++) {
                x.does("ask('/', 0, 0) -> -5",
                        "backend(0, 11) -> " + (attempt < bit ? 0 : (attempt - bit) / 8 + 1));
            }
            x.does("backend(0, 10) -> 18");
        }
    }

    /** "if there is no member, nothing happens" */
    private static void noMember() {
        new Router().does("addBackend(0, 0, 1)", "addBackend(1, 0, 0)", "rule('/=0~1')", "rule('/b=0~2')",
                "moveRule(1, 0)", "ask('/', 0, 0) -> 0", "count(8) -> 0", "backend(1, 10) -> 0",
                "ask('/b', 0, 0) -> 0", "count(8) -> 0", "setWeight(1, 1)", "ask('/', 0, 0) -> 0",
                "count(8) -> 1", "backend(1, 10) -> 1", "setWeight(1, 0)", "ask('/', 0, 0) -> 0",
                "count(8) -> 1", "backend(1, 10) -> 1");
    }

    /** "ejected or not" */
    private static void ejectedOrNot() {
        new Router().does("addBackend(0, 0, 1)", "configure(0, 0, 1, 9, 100, 0)", "setPattern(0, 240)",
                "rule('/=0~0*2')", "ask('/', 0, 0) * 2 -> -6 -5", "backend(0) -> 0 0 1 240 0 1 0 0 1 9 2 0",
                "ask('/', 0, 0) * 7", "backend(0) -> 0 0 1 240 0 1 0 0 1 9 9 4");
        // An ejected one without weight is no member.
        new Router().does("addBackend(0, 0, 1)", "configure(0, 0, 1, 9, 100, 0)", "setPattern(0, 0)",
                "rule('/=0~0')", "ask('/', 0, 0) -> -6", "count(8) -> 1", "setWeight(0, 0)",
                "ask('/', 0, 0) -> -5", "count(8) -> 1");
    }

    /** The numbers of attempts and shadow attempts do not depend on each other. */
    private static void ownShadow() {
        new Router().does("addBackend(0, 0, 1)", "setPattern(0, 5)", "configure(0, 0, 9, 1, 0, 0)",
                "rule('/a=0~0')", "rule('/b=0')", "rule('/c=1~0')", "ask('/b', 0, 0) -> 0",
                "ask('/a', 0, 0) -> -6", "ask('/c', 0, 0) -> -5", "ask('/a', 0, 0) -> 0",
                "backend(0) -> 0 0 1 5 0 3 2 0 0 0 3 2");
    }

    /** "and nothing else changes": no credit, token, failure run, ejection, count of attempts nor the trace */
    private static void nothingElseChanges() {
        new Router().does("addBackend(0, 0, 1)", "addBackend(1, 0, 1) * 2", "setPattern(1, 0)", "setPattern(2, 0)",
                "configure(1, 2, 1, 9, 100, 50)", "rule('/=0~1')", "ask('/', 0, 0) * 6",
                "backend(1) -> 1 0 1 0 0 0 0 0 0 0 3 0", "backend(2) -> 1 0 1 0 0 0 0 0 0 0 3 0",
                "service(1) -> 2 1 9 100 50 300 2 0 0 0 0 0 0", "kept(1) -> -1 -1 -1 -1 -1 -1 -1 -1 -1 -1",
                "counts() -> 3 1 6 6 0 0 0 6 6 0 0 0 1 0", "trace() -> 0,1,1,0");
    }
}
